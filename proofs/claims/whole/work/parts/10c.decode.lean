/-! ===== decode rows (out of NAMES.whole) ===== -/
theorem dX9_within_0 : decode cX9_within 0 = .ok (.lload_n 0, 1) := by decide +kernel
theorem dX9_within_1 : decode cX9_within 1 = .ok (.lload_n 2, 1) := by decide +kernel
theorem dX9_within_2 : decode cX9_within 2 = .ok (.lcmp, 1) := by decide +kernel
theorem dX9_within_3 : decode cX9_within 3 = .ok (.ifCond .lt 14, 3) := by decide +kernel
theorem dX9_within_6 : decode cX9_within 6 = .ok (.lload_n 0, 1) := by decide +kernel
theorem dX9_within_7 : decode cX9_within 7 = .ok (.lload 4, 2) := by decide +kernel
theorem dX9_within_9 : decode cX9_within 9 = .ok (.lcmp, 1) := by decide +kernel
theorem dX9_within_10 : decode cX9_within 10 = .ok (.ifCond .gt 7, 3) := by decide +kernel
theorem dX9_within_13 : decode cX9_within 13 = .ok (.iconst 1, 1) := by decide +kernel
theorem dX9_within_14 : decode cX9_within 14 = .ok (.goto 4, 3) := by decide +kernel
theorem dX9_within_17 : decode cX9_within 17 = .ok (.iconst 0, 1) := by decide +kernel
theorem dX9_within_18 : decode cX9_within 18 = .ok (.ireturn, 1) := by decide +kernel
theorem dX9_bitsOf_0 : decode cX9_bitsOf 0 = .ok (.iconst 0, 1) := by decide +kernel
theorem dX9_bitsOf_1 : decode cX9_bitsOf 1 = .ok (.istore_n 1, 1) := by decide +kernel
theorem dX9_bitsOf_2 : decode cX9_bitsOf 2 = .ok (.iload_n 0, 1) := by decide +kernel
theorem dX9_bitsOf_3 : decode cX9_bitsOf 3 = .ok (.istore_n 2, 1) := by decide +kernel
theorem dX9_bitsOf_4 : decode cX9_bitsOf 4 = .ok (.iload_n 2, 1) := by decide +kernel
theorem dX9_bitsOf_5 : decode cX9_bitsOf 5 = .ok (.ifCond .eq 15, 3) := by decide +kernel
theorem dX9_bitsOf_8 : decode cX9_bitsOf 8 = .ok (.iinc 1 1, 3) := by decide +kernel
theorem dX9_bitsOf_11 : decode cX9_bitsOf 11 = .ok (.iload_n 2, 1) := by decide +kernel
theorem dX9_bitsOf_12 : decode cX9_bitsOf 12 = .ok (.iload_n 2, 1) := by decide +kernel
theorem dX9_bitsOf_13 : decode cX9_bitsOf 13 = .ok (.iconst 1, 1) := by decide +kernel
theorem dX9_bitsOf_14 : decode cX9_bitsOf 14 = .ok (.isub, 1) := by decide +kernel
theorem dX9_bitsOf_15 : decode cX9_bitsOf 15 = .ok (.iand, 1) := by decide +kernel
theorem dX9_bitsOf_16 : decode cX9_bitsOf 16 = .ok (.istore_n 2, 1) := by decide +kernel
theorem dX9_bitsOf_17 : decode cX9_bitsOf 17 = .ok (.goto (-13), 3) := by decide +kernel
theorem dX9_bitsOf_20 : decode cX9_bitsOf 20 = .ok (.iload_n 1, 1) := by decide +kernel
theorem dX9_bitsOf_21 : decode cX9_bitsOf 21 = .ok (.ireturn, 1) := by decide +kernel
theorem dX9_isIn_0 : decode cX9_isIn 0 = .ok (.iload_n 0, 1) := by decide +kernel
theorem dX9_isIn_1 : decode cX9_isIn 1 = .ok (.iload_n 1, 1) := by decide +kernel
theorem dX9_isIn_2 : decode cX9_isIn 2 = .ok (.ishr, 1) := by decide +kernel
theorem dX9_isIn_3 : decode cX9_isIn 3 = .ok (.iconst 1, 1) := by decide +kernel
theorem dX9_isIn_4 : decode cX9_isIn 4 = .ok (.iand, 1) := by decide +kernel
theorem dX9_isIn_5 : decode cX9_isIn 5 = .ok (.iconst 1, 1) := by decide +kernel
theorem dX9_isIn_6 : decode cX9_isIn 6 = .ok (.if_icmp .ne 7, 3) := by decide +kernel
theorem dX9_isIn_9 : decode cX9_isIn 9 = .ok (.iconst 1, 1) := by decide +kernel
theorem dX9_isIn_10 : decode cX9_isIn 10 = .ok (.goto 4, 3) := by decide +kernel
theorem dX9_isIn_13 : decode cX9_isIn 13 = .ok (.iconst 0, 1) := by decide +kernel
theorem dX9_isIn_14 : decode cX9_isIn 14 = .ok (.ireturn, 1) := by decide +kernel
theorem dX9_init_0 : decode cX9_init 0 = .ok (.aload_n 0, 1) := by decide +kernel
theorem dX9_init_1 : decode cX9_init 1 = .ok (.invokespecial 3, 3) := by decide +kernel
theorem dX9_init_4 : decode cX9_init 4 = .ok (.aload_n 0, 1) := by decide +kernel
theorem dX9_init_5 : decode cX9_init 5 = .ok (.bipush 12, 2) := by decide +kernel
theorem dX9_init_7 : decode cX9_init 7 = .ok (.newarray .int, 2) := by decide +kernel
theorem dX9_init_9 : decode cX9_init 9 = .ok (.putfield 9, 3) := by decide +kernel
theorem dX9_init_12 : decode cX9_init 12 = .ok (.aload_n 0, 1) := by decide +kernel
theorem dX9_init_13 : decode cX9_init 13 = .ok (.bipush 40, 2) := by decide +kernel
theorem dX9_init_15 : decode cX9_init 15 = .ok (.newarray .int, 2) := by decide +kernel
theorem dX9_init_17 : decode cX9_init 17 = .ok (.putfield 13, 3) := by decide +kernel
theorem dX9_init_20 : decode cX9_init 20 = .ok (.aload_n 0, 1) := by decide +kernel
theorem dX9_init_21 : decode cX9_init 21 = .ok (.bipush 40, 2) := by decide +kernel
theorem dX9_init_23 : decode cX9_init 23 = .ok (.newarray .int, 2) := by decide +kernel
theorem dX9_init_25 : decode cX9_init 25 = .ok (.putfield 16, 3) := by decide +kernel
theorem dX9_init_28 : decode cX9_init 28 = .ok (.aload_n 0, 1) := by decide +kernel
theorem dX9_init_29 : decode cX9_init 29 = .ok (.bipush 40, 2) := by decide +kernel
theorem dX9_init_31 : decode cX9_init 31 = .ok (.newarray .int, 2) := by decide +kernel
theorem dX9_init_33 : decode cX9_init 33 = .ok (.putfield 19, 3) := by decide +kernel
theorem dX9_init_36 : decode cX9_init 36 = .ok (.aload_n 0, 1) := by decide +kernel
theorem dX9_init_37 : decode cX9_init 37 = .ok (.iconst 4, 1) := by decide +kernel
theorem dX9_init_38 : decode cX9_init 38 = .ok (.newarray .int, 2) := by decide +kernel
theorem dX9_init_40 : decode cX9_init 40 = .ok (.putfield 22, 3) := by decide +kernel
theorem dX9_init_43 : decode cX9_init 43 = .ok (.aload_n 0, 1) := by decide +kernel
theorem dX9_init_44 : decode cX9_init 44 = .ok (.iconst 4, 1) := by decide +kernel
theorem dX9_init_45 : decode cX9_init 45 = .ok (.newarray .int, 2) := by decide +kernel
theorem dX9_init_47 : decode cX9_init 47 = .ok (.putfield 25, 3) := by decide +kernel
theorem dX9_init_50 : decode cX9_init 50 = .ok (.aload_n 0, 1) := by decide +kernel
theorem dX9_init_51 : decode cX9_init 51 = .ok (.iconst 5, 1) := by decide +kernel
theorem dX9_init_52 : decode cX9_init 52 = .ok (.newarray .int, 2) := by decide +kernel
theorem dX9_init_54 : decode cX9_init 54 = .ok (.putfield 28, 3) := by decide +kernel
theorem dX9_init_57 : decode cX9_init 57 = .ok (.aload_n 0, 1) := by decide +kernel
theorem dX9_init_58 : decode cX9_init 58 = .ok (.iconst 4, 1) := by decide +kernel
theorem dX9_init_59 : decode cX9_init 59 = .ok (.newarray .int, 2) := by decide +kernel
theorem dX9_init_61 : decode cX9_init 61 = .ok (.putfield 31, 3) := by decide +kernel
theorem dX9_init_64 : decode cX9_init 64 = .ok (.aload_n 0, 1) := by decide +kernel
theorem dX9_init_65 : decode cX9_init 65 = .ok (.bipush 120, 2) := by decide +kernel
theorem dX9_init_67 : decode cX9_init 67 = .ok (.newarray .int, 2) := by decide +kernel
theorem dX9_init_69 : decode cX9_init 69 = .ok (.putfield 34, 3) := by decide +kernel
theorem dX9_init_72 : decode cX9_init 72 = .ok (.aload_n 0, 1) := by decide +kernel
theorem dX9_init_73 : decode cX9_init 73 = .ok (.bipush 120, 2) := by decide +kernel
theorem dX9_init_75 : decode cX9_init 75 = .ok (.newarray .int, 2) := by decide +kernel
theorem dX9_init_77 : decode cX9_init 77 = .ok (.putfield 37, 3) := by decide +kernel
theorem dX9_init_80 : decode cX9_init 80 = .ok (.aload_n 0, 1) := by decide +kernel
theorem dX9_init_81 : decode cX9_init 81 = .ok (.iconst 5, 1) := by decide +kernel
theorem dX9_init_82 : decode cX9_init 82 = .ok (.newarray .int, 2) := by decide +kernel
theorem dX9_init_84 : decode cX9_init 84 = .ok (.putfield 40, 3) := by decide +kernel
theorem dX9_init_87 : decode cX9_init 87 = .ok (.aload_n 0, 1) := by decide +kernel
theorem dX9_init_88 : decode cX9_init 88 = .ok (.bipush 10, 2) := by decide +kernel
theorem dX9_init_90 : decode cX9_init 90 = .ok (.newarray .long, 2) := by decide +kernel
theorem dX9_init_92 : decode cX9_init 92 = .ok (.putfield 43, 3) := by decide +kernel
theorem dX9_init_95 : decode cX9_init 95 = .ok (.aload_n 0, 1) := by decide +kernel
theorem dX9_init_96 : decode cX9_init 96 = .ok (.sipush 2560, 3) := by decide +kernel
theorem dX9_init_99 : decode cX9_init 99 = .ok (.newarray .long, 2) := by decide +kernel
theorem dX9_init_101 : decode cX9_init 101 = .ok (.putfield 47, 3) := by decide +kernel
theorem dX9_init_104 : decode cX9_init 104 = .ok (.aload_n 0, 1) := by decide +kernel
theorem dX9_init_105 : decode cX9_init 105 = .ok (.sipush 640, 3) := by decide +kernel
theorem dX9_init_108 : decode cX9_init 108 = .ok (.newarray .int, 2) := by decide +kernel
theorem dX9_init_110 : decode cX9_init 110 = .ok (.putfield 50, 3) := by decide +kernel
theorem dX9_init_113 : decode cX9_init 113 = .ok (.aload_n 0, 1) := by decide +kernel
theorem dX9_init_114 : decode cX9_init 114 = .ok (.sipush 640, 3) := by decide +kernel
theorem dX9_init_117 : decode cX9_init 117 = .ok (.newarray .int, 2) := by decide +kernel
theorem dX9_init_119 : decode cX9_init 119 = .ok (.putfield 53, 3) := by decide +kernel
theorem dX9_init_122 : decode cX9_init 122 = .ok (.aload_n 0, 1) := by decide +kernel
theorem dX9_init_123 : decode cX9_init 123 = .ok (.iconst 4, 1) := by decide +kernel
theorem dX9_init_124 : decode cX9_init 124 = .ok (.newarray .long, 2) := by decide +kernel
theorem dX9_init_126 : decode cX9_init 126 = .ok (.putfield 56, 3) := by decide +kernel
theorem dX9_init_129 : decode cX9_init 129 = .ok (.aload_n 0, 1) := by decide +kernel
theorem dX9_init_130 : decode cX9_init 130 = .ok (.sipush 640, 3) := by decide +kernel
theorem dX9_init_133 : decode cX9_init 133 = .ok (.newarray .long, 2) := by decide +kernel
theorem dX9_init_135 : decode cX9_init 135 = .ok (.putfield 59, 3) := by decide +kernel
theorem dX9_init_138 : decode cX9_init 138 = .ok (.aload_n 0, 1) := by decide +kernel
theorem dX9_init_139 : decode cX9_init 139 = .ok (.iconst 4, 1) := by decide +kernel
theorem dX9_init_140 : decode cX9_init 140 = .ok (.newarray .int, 2) := by decide +kernel
theorem dX9_init_142 : decode cX9_init 142 = .ok (.putfield 62, 3) := by decide +kernel
theorem dX9_init_145 : decode cX9_init 145 = .ok (.aload_n 0, 1) := by decide +kernel
theorem dX9_init_146 : decode cX9_init 146 = .ok (.bipush 50, 2) := by decide +kernel
theorem dX9_init_148 : decode cX9_init 148 = .ok (.newarray .int, 2) := by decide +kernel
theorem dX9_init_150 : decode cX9_init 150 = .ok (.putfield 65, 3) := by decide +kernel
theorem dX9_init_153 : decode cX9_init 153 = .ok (.aload_n 0, 1) := by decide +kernel
theorem dX9_init_154 : decode cX9_init 154 = .ok (.bipush 24, 2) := by decide +kernel
theorem dX9_init_156 : decode cX9_init 156 = .ok (.newarray .int, 2) := by decide +kernel
theorem dX9_init_158 : decode cX9_init 158 = .ok (.putfield 68, 3) := by decide +kernel
theorem dX9_init_161 : decode cX9_init 161 = .ok (.aload_n 0, 1) := by decide +kernel
theorem dX9_init_162 : decode cX9_init 162 = .ok (.bipush 6, 2) := by decide +kernel
theorem dX9_init_164 : decode cX9_init 164 = .ok (.newarray .int, 2) := by decide +kernel
theorem dX9_init_166 : decode cX9_init 166 = .ok (.putfield 71, 3) := by decide +kernel
theorem dX9_init_169 : decode cX9_init 169 = .ok (.aload_n 0, 1) := by decide +kernel
theorem dX9_init_170 : decode cX9_init 170 = .ok (.bipush 6, 2) := by decide +kernel
theorem dX9_init_172 : decode cX9_init 172 = .ok (.newarray .int, 2) := by decide +kernel
theorem dX9_init_174 : decode cX9_init 174 = .ok (.putfield 74, 3) := by decide +kernel
theorem dX9_init_177 : decode cX9_init 177 = .ok (.aload_n 0, 1) := by decide +kernel
theorem dX9_init_178 : decode cX9_init 178 = .ok (.sipush 360, 3) := by decide +kernel
theorem dX9_init_181 : decode cX9_init 181 = .ok (.newarray .long, 2) := by decide +kernel
theorem dX9_init_183 : decode cX9_init 183 = .ok (.putfield 77, 3) := by decide +kernel
theorem dX9_init_186 : decode cX9_init 186 = .ok (.aload_n 0, 1) := by decide +kernel
theorem dX9_init_187 : decode cX9_init 187 = .ok (.bipush 60, 2) := by decide +kernel
theorem dX9_init_189 : decode cX9_init 189 = .ok (.newarray .long, 2) := by decide +kernel
theorem dX9_init_191 : decode cX9_init 191 = .ok (.putfield 80, 3) := by decide +kernel
theorem dX9_init_194 : decode cX9_init 194 = .ok (.iconst 0, 1) := by decide +kernel
theorem dX9_init_195 : decode cX9_init 195 = .ok (.istore_n 1, 1) := by decide +kernel
theorem dX9_init_196 : decode cX9_init 196 = .ok (.iload_n 1, 1) := by decide +kernel
theorem dX9_init_197 : decode cX9_init 197 = .ok (.bipush 6, 2) := by decide +kernel
theorem dX9_init_199 : decode cX9_init 199 = .ok (.if_icmp .ge 16, 3) := by decide +kernel
theorem dX9_init_202 : decode cX9_init 202 = .ok (.aload_n 0, 1) := by decide +kernel
theorem dX9_init_203 : decode cX9_init 203 = .ok (.getfield 71, 3) := by decide +kernel
theorem dX9_init_206 : decode cX9_init 206 = .ok (.iload_n 1, 1) := by decide +kernel
theorem dX9_init_207 : decode cX9_init 207 = .ok (.iconst (-1), 1) := by decide +kernel
theorem dX9_init_208 : decode cX9_init 208 = .ok (.iastore, 1) := by decide +kernel
theorem dX9_init_209 : decode cX9_init 209 = .ok (.iinc 1 1, 3) := by decide +kernel
theorem dX9_init_212 : decode cX9_init 212 = .ok (.goto (-16), 3) := by decide +kernel
theorem dX9_init_215 : decode cX9_init 215 = .ok (.aload_n 0, 1) := by decide +kernel
theorem dX9_init_216 : decode cX9_init 216 = .ok (.iconst (-1), 1) := by decide +kernel
theorem dX9_init_217 : decode cX9_init 217 = .ok (.putfield 83, 3) := by decide +kernel
theorem dX9_init_220 : decode cX9_init 220 = .ok (.aload_n 0, 1) := by decide +kernel
theorem dX9_init_221 : decode cX9_init 221 = .ok (.bipush 6, 2) := by decide +kernel
theorem dX9_init_223 : decode cX9_init 223 = .ok (.putfield 87, 3) := by decide +kernel
theorem dX9_init_226 : decode cX9_init 226 = .ok (.aload_n 0, 1) := by decide +kernel
theorem dX9_init_227 : decode cX9_init 227 = .ok (.getfield 28, 3) := by decide +kernel
theorem dX9_init_230 : decode cX9_init 230 = .ok (.iconst 1, 1) := by decide +kernel
theorem dX9_init_231 : decode cX9_init 231 = .ok (.bipush 9, 2) := by decide +kernel
theorem dX9_init_233 : decode cX9_init 233 = .ok (.iastore, 1) := by decide +kernel
theorem dX9_init_234 : decode cX9_init 234 = .ok (.aload_n 0, 1) := by decide +kernel
theorem dX9_init_235 : decode cX9_init 235 = .ok (.getfield 28, 3) := by decide +kernel
theorem dX9_init_238 : decode cX9_init 238 = .ok (.iconst 2, 1) := by decide +kernel
theorem dX9_init_239 : decode cX9_init 239 = .ok (.iconst 4, 1) := by decide +kernel
theorem dX9_init_240 : decode cX9_init 240 = .ok (.iastore, 1) := by decide +kernel
theorem dX9_init_241 : decode cX9_init 241 = .ok (.aload_n 0, 1) := by decide +kernel
theorem dX9_init_242 : decode cX9_init 242 = .ok (.getfield 28, 3) := by decide +kernel
theorem dX9_init_245 : decode cX9_init 245 = .ok (.iconst 3, 1) := by decide +kernel
theorem dX9_init_246 : decode cX9_init 246 = .ok (.iconst 2, 1) := by decide +kernel
theorem dX9_init_247 : decode cX9_init 247 = .ok (.iastore, 1) := by decide +kernel
theorem dX9_init_248 : decode cX9_init 248 = .ok (.aload_n 0, 1) := by decide +kernel
theorem dX9_init_249 : decode cX9_init 249 = .ok (.getfield 28, 3) := by decide +kernel
theorem dX9_init_252 : decode cX9_init 252 = .ok (.iconst 4, 1) := by decide +kernel
theorem dX9_init_253 : decode cX9_init 253 = .ok (.iconst 1, 1) := by decide +kernel
theorem dX9_init_254 : decode cX9_init 254 = .ok (.iastore, 1) := by decide +kernel
theorem dX9_init_255 : decode cX9_init 255 = .ok (.return_, 1) := by decide +kernel
theorem dX9_becomes_0 : decode cX9_becomes 0 = .ok (.aload_n 0, 1) := by decide +kernel
theorem dX9_becomes_1 : decode cX9_becomes 1 = .ok (.getfield 9, 3) := by decide +kernel
theorem dX9_becomes_4 : decode cX9_becomes 4 = .ok (.iload_n 1, 1) := by decide +kernel
theorem dX9_becomes_5 : decode cX9_becomes 5 = .ok (.iaload, 1) := by decide +kernel
theorem dX9_becomes_6 : decode cX9_becomes 6 = .ok (.istore_n 3, 1) := by decide +kernel
theorem dX9_becomes_7 : decode cX9_becomes 7 = .ok (.iload_n 3, 1) := by decide +kernel
theorem dX9_becomes_8 : decode cX9_becomes 8 = .ok (.iload_n 2, 1) := by decide +kernel
theorem dX9_becomes_9 : decode cX9_becomes 9 = .ok (.if_icmp .ne 5, 3) := by decide +kernel
theorem dX9_becomes_12 : decode cX9_becomes 12 = .ok (.iload_n 3, 1) := by decide +kernel
theorem dX9_becomes_13 : decode cX9_becomes 13 = .ok (.ireturn, 1) := by decide +kernel
theorem dX9_becomes_14 : decode cX9_becomes 14 = .ok (.aload_n 0, 1) := by decide +kernel
theorem dX9_becomes_15 : decode cX9_becomes 15 = .ok (.getfield 90, 3) := by decide +kernel
theorem dX9_becomes_18 : decode cX9_becomes 18 = .ok (.bipush 40, 2) := by decide +kernel
theorem dX9_becomes_20 : decode cX9_becomes 20 = .ok (.if_icmp .ne 77, 3) := by decide +kernel
theorem dX9_becomes_23 : decode cX9_becomes 23 = .ok (.iconst 1, 1) := by decide +kernel
theorem dX9_becomes_24 : decode cX9_becomes 24 = .ok (.istore 4, 2) := by decide +kernel
theorem dX9_becomes_26 : decode cX9_becomes 26 = .ok (.iload 4, 2) := by decide +kernel
theorem dX9_becomes_28 : decode cX9_becomes 28 = .ok (.bipush 40, 2) := by decide +kernel
theorem dX9_becomes_30 : decode cX9_becomes 30 = .ok (.if_icmp .ge 57, 3) := by decide +kernel
theorem dX9_becomes_33 : decode cX9_becomes 33 = .ok (.aload_n 0, 1) := by decide +kernel
theorem dX9_becomes_34 : decode cX9_becomes 34 = .ok (.getfield 13, 3) := by decide +kernel
theorem dX9_becomes_37 : decode cX9_becomes 37 = .ok (.iload 4, 2) := by decide +kernel
theorem dX9_becomes_39 : decode cX9_becomes 39 = .ok (.iconst 1, 1) := by decide +kernel
theorem dX9_becomes_40 : decode cX9_becomes 40 = .ok (.isub, 1) := by decide +kernel
theorem dX9_becomes_41 : decode cX9_becomes 41 = .ok (.aload_n 0, 1) := by decide +kernel
theorem dX9_becomes_42 : decode cX9_becomes 42 = .ok (.getfield 13, 3) := by decide +kernel
theorem dX9_becomes_45 : decode cX9_becomes 45 = .ok (.iload 4, 2) := by decide +kernel
theorem dX9_becomes_47 : decode cX9_becomes 47 = .ok (.iaload, 1) := by decide +kernel
theorem dX9_becomes_48 : decode cX9_becomes 48 = .ok (.iastore, 1) := by decide +kernel
theorem dX9_becomes_49 : decode cX9_becomes 49 = .ok (.aload_n 0, 1) := by decide +kernel
theorem dX9_becomes_50 : decode cX9_becomes 50 = .ok (.getfield 16, 3) := by decide +kernel
theorem dX9_becomes_53 : decode cX9_becomes 53 = .ok (.iload 4, 2) := by decide +kernel
theorem dX9_becomes_55 : decode cX9_becomes 55 = .ok (.iconst 1, 1) := by decide +kernel
theorem dX9_becomes_56 : decode cX9_becomes 56 = .ok (.isub, 1) := by decide +kernel
theorem dX9_becomes_57 : decode cX9_becomes 57 = .ok (.aload_n 0, 1) := by decide +kernel
theorem dX9_becomes_58 : decode cX9_becomes 58 = .ok (.getfield 16, 3) := by decide +kernel
theorem dX9_becomes_61 : decode cX9_becomes 61 = .ok (.iload 4, 2) := by decide +kernel
theorem dX9_becomes_63 : decode cX9_becomes 63 = .ok (.iaload, 1) := by decide +kernel
theorem dX9_becomes_64 : decode cX9_becomes 64 = .ok (.iastore, 1) := by decide +kernel
theorem dX9_becomes_65 : decode cX9_becomes 65 = .ok (.aload_n 0, 1) := by decide +kernel
theorem dX9_becomes_66 : decode cX9_becomes 66 = .ok (.getfield 19, 3) := by decide +kernel
theorem dX9_becomes_69 : decode cX9_becomes 69 = .ok (.iload 4, 2) := by decide +kernel
theorem dX9_becomes_71 : decode cX9_becomes 71 = .ok (.iconst 1, 1) := by decide +kernel
theorem dX9_becomes_72 : decode cX9_becomes 72 = .ok (.isub, 1) := by decide +kernel
theorem dX9_becomes_73 : decode cX9_becomes 73 = .ok (.aload_n 0, 1) := by decide +kernel
theorem dX9_becomes_74 : decode cX9_becomes 74 = .ok (.getfield 19, 3) := by decide +kernel
theorem dX9_becomes_77 : decode cX9_becomes 77 = .ok (.iload 4, 2) := by decide +kernel
theorem dX9_becomes_79 : decode cX9_becomes 79 = .ok (.iaload, 1) := by decide +kernel
theorem dX9_becomes_80 : decode cX9_becomes 80 = .ok (.iastore, 1) := by decide +kernel
theorem dX9_becomes_81 : decode cX9_becomes 81 = .ok (.iinc 4 1, 3) := by decide +kernel
theorem dX9_becomes_84 : decode cX9_becomes 84 = .ok (.goto (-58), 3) := by decide +kernel
theorem dX9_becomes_87 : decode cX9_becomes 87 = .ok (.aload_n 0, 1) := by decide +kernel
theorem dX9_becomes_88 : decode cX9_becomes 88 = .ok (.dup, 1) := by decide +kernel
theorem dX9_becomes_89 : decode cX9_becomes 89 = .ok (.getfield 90, 3) := by decide +kernel
theorem dX9_becomes_92 : decode cX9_becomes 92 = .ok (.iconst 1, 1) := by decide +kernel
theorem dX9_becomes_93 : decode cX9_becomes 93 = .ok (.isub, 1) := by decide +kernel
theorem dX9_becomes_94 : decode cX9_becomes 94 = .ok (.putfield 90, 3) := by decide +kernel
theorem dX9_becomes_97 : decode cX9_becomes 97 = .ok (.aload_n 0, 1) := by decide +kernel
theorem dX9_becomes_98 : decode cX9_becomes 98 = .ok (.getfield 13, 3) := by decide +kernel
theorem dX9_becomes_101 : decode cX9_becomes 101 = .ok (.aload_n 0, 1) := by decide +kernel
theorem dX9_becomes_102 : decode cX9_becomes 102 = .ok (.getfield 90, 3) := by decide +kernel
theorem dX9_becomes_105 : decode cX9_becomes 105 = .ok (.iload_n 1, 1) := by decide +kernel
theorem dX9_becomes_106 : decode cX9_becomes 106 = .ok (.iastore, 1) := by decide +kernel
theorem dX9_becomes_107 : decode cX9_becomes 107 = .ok (.aload_n 0, 1) := by decide +kernel
theorem dX9_becomes_108 : decode cX9_becomes 108 = .ok (.getfield 16, 3) := by decide +kernel
theorem dX9_becomes_111 : decode cX9_becomes 111 = .ok (.aload_n 0, 1) := by decide +kernel
theorem dX9_becomes_112 : decode cX9_becomes 112 = .ok (.getfield 90, 3) := by decide +kernel
theorem dX9_becomes_115 : decode cX9_becomes 115 = .ok (.iload_n 3, 1) := by decide +kernel
theorem dX9_becomes_116 : decode cX9_becomes 116 = .ok (.iastore, 1) := by decide +kernel
theorem dX9_becomes_117 : decode cX9_becomes 117 = .ok (.aload_n 0, 1) := by decide +kernel
theorem dX9_becomes_118 : decode cX9_becomes 118 = .ok (.getfield 19, 3) := by decide +kernel
theorem dX9_becomes_121 : decode cX9_becomes 121 = .ok (.aload_n 0, 1) := by decide +kernel
theorem dX9_becomes_122 : decode cX9_becomes 122 = .ok (.getfield 90, 3) := by decide +kernel
theorem dX9_becomes_125 : decode cX9_becomes 125 = .ok (.iload_n 2, 1) := by decide +kernel
theorem dX9_becomes_126 : decode cX9_becomes 126 = .ok (.iastore, 1) := by decide +kernel
theorem dX9_becomes_127 : decode cX9_becomes 127 = .ok (.aload_n 0, 1) := by decide +kernel
theorem dX9_becomes_128 : decode cX9_becomes 128 = .ok (.dup, 1) := by decide +kernel
theorem dX9_becomes_129 : decode cX9_becomes 129 = .ok (.getfield 90, 3) := by decide +kernel
theorem dX9_becomes_132 : decode cX9_becomes 132 = .ok (.iconst 1, 1) := by decide +kernel
theorem dX9_becomes_133 : decode cX9_becomes 133 = .ok (.iadd, 1) := by decide +kernel
theorem dX9_becomes_134 : decode cX9_becomes 134 = .ok (.putfield 90, 3) := by decide +kernel
theorem dX9_becomes_137 : decode cX9_becomes 137 = .ok (.aload_n 0, 1) := by decide +kernel
theorem dX9_becomes_138 : decode cX9_becomes 138 = .ok (.aload_n 0, 1) := by decide +kernel
theorem dX9_becomes_139 : decode cX9_becomes 139 = .ok (.getfield 90, 3) := by decide +kernel
theorem dX9_becomes_142 : decode cX9_becomes 142 = .ok (.putfield 93, 3) := by decide +kernel
theorem dX9_becomes_145 : decode cX9_becomes 145 = .ok (.aload_n 0, 1) := by decide +kernel
theorem dX9_becomes_146 : decode cX9_becomes 146 = .ok (.getfield 9, 3) := by decide +kernel
theorem dX9_becomes_149 : decode cX9_becomes 149 = .ok (.iload_n 1, 1) := by decide +kernel
theorem dX9_becomes_150 : decode cX9_becomes 150 = .ok (.iload_n 2, 1) := by decide +kernel
theorem dX9_becomes_151 : decode cX9_becomes 151 = .ok (.iastore, 1) := by decide +kernel
theorem dX9_becomes_152 : decode cX9_becomes 152 = .ok (.iload_n 3, 1) := by decide +kernel
theorem dX9_becomes_153 : decode cX9_becomes 153 = .ok (.ireturn, 1) := by decide +kernel
theorem dX9_undo_0 : decode cX9_undo 0 = .ok (.aload_n 0, 1) := by decide +kernel
theorem dX9_undo_1 : decode cX9_undo 1 = .ok (.getfield 90, 3) := by decide +kernel
theorem dX9_undo_4 : decode cX9_undo 4 = .ok (.ifCond .ne 6, 3) := by decide +kernel
theorem dX9_undo_7 : decode cX9_undo 7 = .ok (.bipush (-5), 2) := by decide +kernel
theorem dX9_undo_9 : decode cX9_undo 9 = .ok (.ireturn, 1) := by decide +kernel
theorem dX9_undo_10 : decode cX9_undo 10 = .ok (.aload_n 0, 1) := by decide +kernel
theorem dX9_undo_11 : decode cX9_undo 11 = .ok (.dup, 1) := by decide +kernel
theorem dX9_undo_12 : decode cX9_undo 12 = .ok (.getfield 90, 3) := by decide +kernel
theorem dX9_undo_15 : decode cX9_undo 15 = .ok (.iconst 1, 1) := by decide +kernel
theorem dX9_undo_16 : decode cX9_undo 16 = .ok (.isub, 1) := by decide +kernel
theorem dX9_undo_17 : decode cX9_undo 17 = .ok (.putfield 90, 3) := by decide +kernel
theorem dX9_undo_20 : decode cX9_undo 20 = .ok (.aload_n 0, 1) := by decide +kernel
theorem dX9_undo_21 : decode cX9_undo 21 = .ok (.getfield 9, 3) := by decide +kernel
theorem dX9_undo_24 : decode cX9_undo 24 = .ok (.aload_n 0, 1) := by decide +kernel
theorem dX9_undo_25 : decode cX9_undo 25 = .ok (.getfield 13, 3) := by decide +kernel
theorem dX9_undo_28 : decode cX9_undo 28 = .ok (.aload_n 0, 1) := by decide +kernel
theorem dX9_undo_29 : decode cX9_undo 29 = .ok (.getfield 90, 3) := by decide +kernel
theorem dX9_undo_32 : decode cX9_undo 32 = .ok (.iaload, 1) := by decide +kernel
theorem dX9_undo_33 : decode cX9_undo 33 = .ok (.aload_n 0, 1) := by decide +kernel
theorem dX9_undo_34 : decode cX9_undo 34 = .ok (.getfield 16, 3) := by decide +kernel
theorem dX9_undo_37 : decode cX9_undo 37 = .ok (.aload_n 0, 1) := by decide +kernel
theorem dX9_undo_38 : decode cX9_undo 38 = .ok (.getfield 90, 3) := by decide +kernel
theorem dX9_undo_41 : decode cX9_undo 41 = .ok (.iaload, 1) := by decide +kernel
theorem dX9_undo_42 : decode cX9_undo 42 = .ok (.iastore, 1) := by decide +kernel
theorem dX9_undo_43 : decode cX9_undo 43 = .ok (.aload_n 0, 1) := by decide +kernel
theorem dX9_undo_44 : decode cX9_undo 44 = .ok (.getfield 90, 3) := by decide +kernel
theorem dX9_undo_47 : decode cX9_undo 47 = .ok (.ireturn, 1) := by decide +kernel
theorem dX9_redo_0 : decode cX9_redo 0 = .ok (.aload_n 0, 1) := by decide +kernel
theorem dX9_redo_1 : decode cX9_redo 1 = .ok (.getfield 90, 3) := by decide +kernel
theorem dX9_redo_4 : decode cX9_redo 4 = .ok (.aload_n 0, 1) := by decide +kernel
theorem dX9_redo_5 : decode cX9_redo 5 = .ok (.getfield 93, 3) := by decide +kernel
theorem dX9_redo_8 : decode cX9_redo 8 = .ok (.if_icmp .ne 6, 3) := by decide +kernel
theorem dX9_redo_11 : decode cX9_redo 11 = .ok (.bipush (-5), 2) := by decide +kernel
theorem dX9_redo_13 : decode cX9_redo 13 = .ok (.ireturn, 1) := by decide +kernel
theorem dX9_redo_14 : decode cX9_redo 14 = .ok (.aload_n 0, 1) := by decide +kernel
theorem dX9_redo_15 : decode cX9_redo 15 = .ok (.getfield 9, 3) := by decide +kernel
theorem dX9_redo_18 : decode cX9_redo 18 = .ok (.aload_n 0, 1) := by decide +kernel
theorem dX9_redo_19 : decode cX9_redo 19 = .ok (.getfield 13, 3) := by decide +kernel
theorem dX9_redo_22 : decode cX9_redo 22 = .ok (.aload_n 0, 1) := by decide +kernel
theorem dX9_redo_23 : decode cX9_redo 23 = .ok (.getfield 90, 3) := by decide +kernel
theorem dX9_redo_26 : decode cX9_redo 26 = .ok (.iaload, 1) := by decide +kernel
theorem dX9_redo_27 : decode cX9_redo 27 = .ok (.aload_n 0, 1) := by decide +kernel
theorem dX9_redo_28 : decode cX9_redo 28 = .ok (.getfield 19, 3) := by decide +kernel
theorem dX9_redo_31 : decode cX9_redo 31 = .ok (.aload_n 0, 1) := by decide +kernel
theorem dX9_redo_32 : decode cX9_redo 32 = .ok (.getfield 90, 3) := by decide +kernel
theorem dX9_redo_35 : decode cX9_redo 35 = .ok (.iaload, 1) := by decide +kernel
theorem dX9_redo_36 : decode cX9_redo 36 = .ok (.iastore, 1) := by decide +kernel
theorem dX9_redo_37 : decode cX9_redo 37 = .ok (.aload_n 0, 1) := by decide +kernel
theorem dX9_redo_38 : decode cX9_redo 38 = .ok (.dup, 1) := by decide +kernel
theorem dX9_redo_39 : decode cX9_redo 39 = .ok (.getfield 90, 3) := by decide +kernel
theorem dX9_redo_42 : decode cX9_redo 42 = .ok (.iconst 1, 1) := by decide +kernel
theorem dX9_redo_43 : decode cX9_redo 43 = .ok (.iadd, 1) := by decide +kernel
theorem dX9_redo_44 : decode cX9_redo 44 = .ok (.putfield 90, 3) := by decide +kernel
theorem dX9_redo_47 : decode cX9_redo 47 = .ok (.aload_n 0, 1) := by decide +kernel
theorem dX9_redo_48 : decode cX9_redo 48 = .ok (.getfield 93, 3) := by decide +kernel
theorem dX9_redo_51 : decode cX9_redo 51 = .ok (.aload_n 0, 1) := by decide +kernel
theorem dX9_redo_52 : decode cX9_redo 52 = .ok (.getfield 90, 3) := by decide +kernel
theorem dX9_redo_55 : decode cX9_redo 55 = .ok (.isub, 1) := by decide +kernel
theorem dX9_redo_56 : decode cX9_redo 56 = .ok (.ireturn, 1) := by decide +kernel
theorem dX9_isPlayer_0 : decode cX9_isPlayer 0 = .ok (.iload_n 1, 1) := by decide +kernel
theorem dX9_isPlayer_1 : decode cX9_isPlayer 1 = .ok (.i2l, 1) := by decide +kernel
theorem dX9_isPlayer_2 : decode cX9_isPlayer 2 = .ok (.lconst 0, 1) := by decide +kernel
theorem dX9_isPlayer_3 : decode cX9_isPlayer 3 = .ok (.aload_n 0, 1) := by decide +kernel
theorem dX9_isPlayer_4 : decode cX9_isPlayer 4 = .ok (.getfield 96, 3) := by decide +kernel
theorem dX9_isPlayer_7 : decode cX9_isPlayer 7 = .ok (.iconst 1, 1) := by decide +kernel
theorem dX9_isPlayer_8 : decode cX9_isPlayer 8 = .ok (.isub, 1) := by decide +kernel
theorem dX9_isPlayer_9 : decode cX9_isPlayer 9 = .ok (.i2l, 1) := by decide +kernel
theorem dX9_isPlayer_10 : decode cX9_isPlayer 10 = .ok (.invokestatic 99, 3) := by decide +kernel
theorem dX9_isPlayer_13 : decode cX9_isPlayer 13 = .ok (.ireturn, 1) := by decide +kernel
theorem dX9_all_0 : decode cX9_all 0 = .ok (.iconst 1, 1) := by decide +kernel
theorem dX9_all_1 : decode cX9_all 1 = .ok (.aload_n 0, 1) := by decide +kernel
theorem dX9_all_2 : decode cX9_all 2 = .ok (.getfield 96, 3) := by decide +kernel
theorem dX9_all_5 : decode cX9_all 5 = .ok (.ishl, 1) := by decide +kernel
theorem dX9_all_6 : decode cX9_all 6 = .ok (.iconst 1, 1) := by decide +kernel
theorem dX9_all_7 : decode cX9_all 7 = .ok (.isub, 1) := by decide +kernel
theorem dX9_all_8 : decode cX9_all 8 = .ok (.ireturn, 1) := by decide +kernel
theorem dX9_isOne_0 : decode cX9_isOne 0 = .ok (.lload_n 0, 1) := by decide +kernel
theorem dX9_isOne_1 : decode cX9_isOne 1 = .ok (.lconst 0, 1) := by decide +kernel
theorem dX9_isOne_2 : decode cX9_isOne 2 = .ok (.ldc2_w 103, 3) := by decide +kernel
theorem dX9_isOne_5 : decode cX9_isOne 5 = .ok (.invokestatic 99, 3) := by decide +kernel
theorem dX9_isOne_8 : decode cX9_isOne 8 = .ok (.ifCond .eq 18, 3) := by decide +kernel
theorem dX9_isOne_11 : decode cX9_isOne 11 = .ok (.lload_n 2, 1) := by decide +kernel
theorem dX9_isOne_12 : decode cX9_isOne 12 = .ok (.lconst 0, 1) := by decide +kernel
theorem dX9_isOne_13 : decode cX9_isOne 13 = .ok (.ldc2_w 105, 3) := by decide +kernel
theorem dX9_isOne_16 : decode cX9_isOne 16 = .ok (.invokestatic 99, 3) := by decide +kernel
theorem dX9_isOne_19 : decode cX9_isOne 19 = .ok (.ifCond .eq 7, 3) := by decide +kernel
theorem dX9_isOne_22 : decode cX9_isOne 22 = .ok (.iconst 1, 1) := by decide +kernel
theorem dX9_isOne_23 : decode cX9_isOne 23 = .ok (.goto 4, 3) := by decide +kernel
theorem dX9_isOne_26 : decode cX9_isOne 26 = .ok (.iconst 0, 1) := by decide +kernel
theorem dX9_isOne_27 : decode cX9_isOne 27 = .ok (.ireturn, 1) := by decide +kernel
theorem dX9_adds_0 : decode cX9_adds 0 = .ok (.aload_n 0, 1) := by decide +kernel
theorem dX9_adds_1 : decode cX9_adds 1 = .ok (.getfield 9, 3) := by decide +kernel
theorem dX9_adds_4 : decode cX9_adds 4 = .ok (.aload_n 0, 1) := by decide +kernel
theorem dX9_adds_5 : decode cX9_adds 5 = .ok (.getfield 96, 3) := by decide +kernel
theorem dX9_adds_8 : decode cX9_adds 8 = .ok (.iload_n 1, 1) := by decide +kernel
theorem dX9_adds_9 : decode cX9_adds 9 = .ok (.iastore, 1) := by decide +kernel
theorem dX9_adds_10 : decode cX9_adds 10 = .ok (.aload_n 0, 1) := by decide +kernel
theorem dX9_adds_11 : decode cX9_adds 11 = .ok (.getfield 9, 3) := by decide +kernel
theorem dX9_adds_14 : decode cX9_adds 14 = .ok (.iconst 4, 1) := by decide +kernel
theorem dX9_adds_15 : decode cX9_adds 15 = .ok (.aload_n 0, 1) := by decide +kernel
theorem dX9_adds_16 : decode cX9_adds 16 = .ok (.getfield 96, 3) := by decide +kernel
theorem dX9_adds_19 : decode cX9_adds 19 = .ok (.iadd, 1) := by decide +kernel
theorem dX9_adds_20 : decode cX9_adds 20 = .ok (.iload_n 2, 1) := by decide +kernel
theorem dX9_adds_21 : decode cX9_adds 21 = .ok (.iastore, 1) := by decide +kernel
theorem dX9_adds_22 : decode cX9_adds 22 = .ok (.aload_n 0, 1) := by decide +kernel
theorem dX9_adds_23 : decode cX9_adds 23 = .ok (.getfield 9, 3) := by decide +kernel
theorem dX9_adds_26 : decode cX9_adds 26 = .ok (.bipush 8, 2) := by decide +kernel
theorem dX9_adds_28 : decode cX9_adds 28 = .ok (.aload_n 0, 1) := by decide +kernel
theorem dX9_adds_29 : decode cX9_adds 29 = .ok (.getfield 96, 3) := by decide +kernel
theorem dX9_adds_32 : decode cX9_adds 32 = .ok (.iadd, 1) := by decide +kernel
theorem dX9_adds_33 : decode cX9_adds 33 = .ok (.iconst 0, 1) := by decide +kernel
theorem dX9_adds_34 : decode cX9_adds 34 = .ok (.iastore, 1) := by decide +kernel
theorem dX9_adds_35 : decode cX9_adds 35 = .ok (.aload_n 0, 1) := by decide +kernel
theorem dX9_adds_36 : decode cX9_adds 36 = .ok (.getfield 22, 3) := by decide +kernel
theorem dX9_adds_39 : decode cX9_adds 39 = .ok (.aload_n 0, 1) := by decide +kernel
theorem dX9_adds_40 : decode cX9_adds 40 = .ok (.getfield 96, 3) := by decide +kernel
theorem dX9_adds_43 : decode cX9_adds 43 = .ok (.aload_n 0, 1) := by decide +kernel
theorem dX9_adds_44 : decode cX9_adds 44 = .ok (.getfield 96, 3) := by decide +kernel
theorem dX9_adds_47 : decode cX9_adds 47 = .ok (.iastore, 1) := by decide +kernel
theorem dX9_adds_48 : decode cX9_adds 48 = .ok (.aload_n 0, 1) := by decide +kernel
theorem dX9_adds_49 : decode cX9_adds 49 = .ok (.getfield 25, 3) := by decide +kernel
theorem dX9_adds_52 : decode cX9_adds 52 = .ok (.aload_n 0, 1) := by decide +kernel
theorem dX9_adds_53 : decode cX9_adds 53 = .ok (.getfield 96, 3) := by decide +kernel
theorem dX9_adds_56 : decode cX9_adds 56 = .ok (.aload_n 0, 1) := by decide +kernel
theorem dX9_adds_57 : decode cX9_adds 57 = .ok (.getfield 96, 3) := by decide +kernel
theorem dX9_adds_60 : decode cX9_adds 60 = .ok (.iastore, 1) := by decide +kernel
theorem dX9_adds_61 : decode cX9_adds 61 = .ok (.aload_n 0, 1) := by decide +kernel
theorem dX9_adds_62 : decode cX9_adds 62 = .ok (.dup, 1) := by decide +kernel
theorem dX9_adds_63 : decode cX9_adds 63 = .ok (.getfield 96, 3) := by decide +kernel
theorem dX9_adds_66 : decode cX9_adds 66 = .ok (.iconst 1, 1) := by decide +kernel
theorem dX9_adds_67 : decode cX9_adds 67 = .ok (.iadd, 1) := by decide +kernel
theorem dX9_adds_68 : decode cX9_adds 68 = .ok (.putfield 96, 3) := by decide +kernel
theorem dX9_adds_71 : decode cX9_adds 71 = .ok (.aload_n 0, 1) := by decide +kernel
theorem dX9_adds_72 : decode cX9_adds 72 = .ok (.invokevirtual 107, 3) := by decide +kernel
theorem dX9_adds_75 : decode cX9_adds 75 = .ok (.return_, 1) := by decide +kernel
theorem dX9_player_0 : decode cX9_player 0 = .ok (.iload_n 1, 1) := by decide +kernel
theorem dX9_player_1 : decode cX9_player 1 = .ok (.i2l, 1) := by decide +kernel
theorem dX9_player_2 : decode cX9_player 2 = .ok (.iload_n 2, 1) := by decide +kernel
theorem dX9_player_3 : decode cX9_player 3 = .ok (.i2l, 1) := by decide +kernel
theorem dX9_player_4 : decode cX9_player 4 = .ok (.invokestatic 110, 3) := by decide +kernel
theorem dX9_player_7 : decode cX9_player 7 = .ok (.ifCond .ne 5, 3) := by decide +kernel
theorem dX9_player_10 : decode cX9_player 10 = .ok (.iconst (-1), 1) := by decide +kernel
theorem dX9_player_11 : decode cX9_player 11 = .ok (.ireturn, 1) := by decide +kernel
theorem dX9_player_12 : decode cX9_player 12 = .ok (.aload_n 0, 1) := by decide +kernel
theorem dX9_player_13 : decode cX9_player 13 = .ok (.getfield 96, 3) := by decide +kernel
theorem dX9_player_16 : decode cX9_player 16 = .ok (.iconst 4, 1) := by decide +kernel
theorem dX9_player_17 : decode cX9_player 17 = .ok (.if_icmp .ne 6, 3) := by decide +kernel
theorem dX9_player_20 : decode cX9_player 20 = .ok (.bipush (-3), 2) := by decide +kernel
theorem dX9_player_22 : decode cX9_player 22 = .ok (.ireturn, 1) := by decide +kernel
theorem dX9_player_23 : decode cX9_player 23 = .ok (.aload_n 0, 1) := by decide +kernel
theorem dX9_player_24 : decode cX9_player 24 = .ok (.iload_n 1, 1) := by decide +kernel
theorem dX9_player_25 : decode cX9_player 25 = .ok (.iload_n 2, 1) := by decide +kernel
theorem dX9_player_26 : decode cX9_player 26 = .ok (.invokevirtual 114, 3) := by decide +kernel
theorem dX9_player_29 : decode cX9_player 29 = .ok (.aload_n 0, 1) := by decide +kernel
theorem dX9_player_30 : decode cX9_player 30 = .ok (.getfield 96, 3) := by decide +kernel
theorem dX9_player_33 : decode cX9_player 33 = .ok (.iconst 1, 1) := by decide +kernel
theorem dX9_player_34 : decode cX9_player 34 = .ok (.isub, 1) := by decide +kernel
theorem dX9_player_35 : decode cX9_player 35 = .ok (.ireturn, 1) := by decide +kernel
theorem dX9_players_0 : decode cX9_players 0 = .ok (.iload_n 1, 1) := by decide +kernel
theorem dX9_players_1 : decode cX9_players 1 = .ok (.invokestatic 118, 3) := by decide +kernel
theorem dX9_players_4 : decode cX9_players 4 = .ok (.ifCond .eq 15, 3) := by decide +kernel
theorem dX9_players_7 : decode cX9_players 7 = .ok (.iload_n 3, 1) := by decide +kernel
theorem dX9_players_8 : decode cX9_players 8 = .ok (.i2l, 1) := by decide +kernel
theorem dX9_players_9 : decode cX9_players 9 = .ok (.lconst 1, 1) := by decide +kernel
theorem dX9_players_10 : decode cX9_players 10 = .ok (.ldc2_w 122, 3) := by decide +kernel
theorem dX9_players_13 : decode cX9_players 13 = .ok (.invokestatic 99, 3) := by decide +kernel
theorem dX9_players_16 : decode cX9_players 16 = .ok (.ifCond .ne 5, 3) := by decide +kernel
theorem dX9_players_19 : decode cX9_players 19 = .ok (.iconst (-1), 1) := by decide +kernel
theorem dX9_players_20 : decode cX9_players 20 = .ok (.ireturn, 1) := by decide +kernel
theorem dX9_players_21 : decode cX9_players 21 = .ok (.aload_n 0, 1) := by decide +kernel
theorem dX9_players_22 : decode cX9_players 22 = .ok (.getfield 71, 3) := by decide +kernel
theorem dX9_players_25 : decode cX9_players 25 = .ok (.iload_n 1, 1) := by decide +kernel
theorem dX9_players_26 : decode cX9_players 26 = .ok (.iaload, 1) := by decide +kernel
theorem dX9_players_27 : decode cX9_players 27 = .ok (.ifCond .lt 17, 3) := by decide +kernel
theorem dX9_players_30 : decode cX9_players 30 = .ok (.aload_n 0, 1) := by decide +kernel
theorem dX9_players_31 : decode cX9_players 31 = .ok (.getfield 71, 3) := by decide +kernel
theorem dX9_players_34 : decode cX9_players 34 = .ok (.iload_n 1, 1) := by decide +kernel
theorem dX9_players_35 : decode cX9_players 35 = .ok (.iaload, 1) := by decide +kernel
theorem dX9_players_36 : decode cX9_players 36 = .ok (.bipush 50, 2) := by decide +kernel
theorem dX9_players_38 : decode cX9_players 38 = .ok (.if_icmp .eq 6, 3) := by decide +kernel
theorem dX9_players_41 : decode cX9_players 41 = .ok (.bipush (-12), 2) := by decide +kernel
theorem dX9_players_43 : decode cX9_players 43 = .ok (.ireturn, 1) := by decide +kernel
theorem dX9_players_44 : decode cX9_players 44 = .ok (.iconst 0, 1) := by decide +kernel
theorem dX9_players_45 : decode cX9_players 45 = .ok (.istore 4, 2) := by decide +kernel
theorem dX9_players_47 : decode cX9_players 47 = .ok (.aload_n 0, 1) := by decide +kernel
theorem dX9_players_48 : decode cX9_players 48 = .ok (.getfield 71, 3) := by decide +kernel
theorem dX9_players_51 : decode cX9_players 51 = .ok (.iload_n 1, 1) := by decide +kernel
theorem dX9_players_52 : decode cX9_players 52 = .ok (.iaload, 1) := by decide +kernel
theorem dX9_players_53 : decode cX9_players 53 = .ok (.bipush 50, 2) := by decide +kernel
theorem dX9_players_55 : decode cX9_players 55 = .ok (.if_icmp .ne 11, 3) := by decide +kernel
theorem dX9_players_58 : decode cX9_players 58 = .ok (.iload_n 2, 1) := by decide +kernel
theorem dX9_players_59 : decode cX9_players 59 = .ok (.ifCond .lt 7, 3) := by decide +kernel
theorem dX9_players_62 : decode cX9_players 62 = .ok (.iconst 1, 1) := by decide +kernel
theorem dX9_players_63 : decode cX9_players 63 = .ok (.goto 4, 3) := by decide +kernel
theorem dX9_players_66 : decode cX9_players 66 = .ok (.iconst 0, 1) := by decide +kernel
theorem dX9_players_67 : decode cX9_players 67 = .ok (.istore 5, 2) := by decide +kernel
theorem dX9_players_69 : decode cX9_players 69 = .ok (.iload 5, 2) := by decide +kernel
theorem dX9_players_71 : decode cX9_players 71 = .ok (.ifCond .eq 121, 3) := by decide +kernel
theorem dX9_players_74 : decode cX9_players 74 = .ok (.iload 4, 2) := by decide +kernel
theorem dX9_players_76 : decode cX9_players 76 = .ok (.iload_n 3, 1) := by decide +kernel
theorem dX9_players_77 : decode cX9_players 77 = .ok (.if_icmp .ge 115, 3) := by decide +kernel
theorem dX9_players_80 : decode cX9_players 80 = .ok (.iload_n 2, 1) := by decide +kernel
theorem dX9_players_81 : decode cX9_players 81 = .ok (.aload_n 0, 1) := by decide +kernel
theorem dX9_players_82 : decode cX9_players 82 = .ok (.getfield 74, 3) := by decide +kernel
theorem dX9_players_85 : decode cX9_players 85 = .ok (.iload_n 1, 1) := by decide +kernel
theorem dX9_players_86 : decode cX9_players 86 = .ok (.iaload, 1) := by decide +kernel
theorem dX9_players_87 : decode cX9_players 87 = .ok (.iconst 2, 1) := by decide +kernel
theorem dX9_players_88 : decode cX9_players 88 = .ok (.isub, 1) := by decide +kernel
theorem dX9_players_89 : decode cX9_players 89 = .ok (.iconst 2, 1) := by decide +kernel
theorem dX9_players_90 : decode cX9_players 90 = .ok (.iload 4, 2) := by decide +kernel
theorem dX9_players_92 : decode cX9_players 92 = .ok (.imul, 1) := by decide +kernel
theorem dX9_players_93 : decode cX9_players 93 = .ok (.isub, 1) := by decide +kernel
theorem dX9_players_94 : decode cX9_players 94 = .ok (.if_icmp .gt 15, 3) := by decide +kernel
theorem dX9_players_97 : decode cX9_players 97 = .ok (.aload_n 0, 1) := by decide +kernel
theorem dX9_players_98 : decode cX9_players 98 = .ok (.getfield 96, 3) := by decide +kernel
theorem dX9_players_101 : decode cX9_players 101 = .ok (.iconst 4, 1) := by decide +kernel
theorem dX9_players_102 : decode cX9_players 102 = .ok (.if_icmp .ge 7, 3) := by decide +kernel
theorem dX9_players_105 : decode cX9_players 105 = .ok (.iconst 1, 1) := by decide +kernel
theorem dX9_players_106 : decode cX9_players 106 = .ok (.goto 4, 3) := by decide +kernel
theorem dX9_players_109 : decode cX9_players 109 = .ok (.iconst 0, 1) := by decide +kernel
theorem dX9_players_110 : decode cX9_players 110 = .ok (.istore 5, 2) := by decide +kernel
theorem dX9_players_112 : decode cX9_players 112 = .ok (.bipush 60, 2) := by decide +kernel
theorem dX9_players_114 : decode cX9_players 114 = .ok (.iload_n 1, 1) := by decide +kernel
theorem dX9_players_115 : decode cX9_players 115 = .ok (.imul, 1) := by decide +kernel
theorem dX9_players_116 : decode cX9_players 116 = .ok (.iload_n 2, 1) := by decide +kernel
theorem dX9_players_117 : decode cX9_players 117 = .ok (.iadd, 1) := by decide +kernel
theorem dX9_players_118 : decode cX9_players 118 = .ok (.iconst 2, 1) := by decide +kernel
theorem dX9_players_119 : decode cX9_players 119 = .ok (.iload 4, 2) := by decide +kernel
theorem dX9_players_121 : decode cX9_players 121 = .ok (.imul, 1) := by decide +kernel
theorem dX9_players_122 : decode cX9_players 122 = .ok (.iadd, 1) := by decide +kernel
theorem dX9_players_123 : decode cX9_players 123 = .ok (.istore 6, 2) := by decide +kernel
theorem dX9_players_125 : decode cX9_players 125 = .ok (.iload 5, 2) := by decide +kernel
theorem dX9_players_127 : decode cX9_players 127 = .ok (.ifCond .eq 29, 3) := by decide +kernel
theorem dX9_players_130 : decode cX9_players 130 = .ok (.aload_n 0, 1) := by decide +kernel
theorem dX9_players_131 : decode cX9_players 131 = .ok (.getfield 77, 3) := by decide +kernel
theorem dX9_players_134 : decode cX9_players 134 = .ok (.iload 6, 2) := by decide +kernel
theorem dX9_players_136 : decode cX9_players 136 = .ok (.laload, 1) := by decide +kernel
theorem dX9_players_137 : decode cX9_players 137 = .ok (.aload_n 0, 1) := by decide +kernel
theorem dX9_players_138 : decode cX9_players 138 = .ok (.getfield 77, 3) := by decide +kernel
theorem dX9_players_141 : decode cX9_players 141 = .ok (.iload 6, 2) := by decide +kernel
theorem dX9_players_143 : decode cX9_players 143 = .ok (.iconst 1, 1) := by decide +kernel
theorem dX9_players_144 : decode cX9_players 144 = .ok (.iadd, 1) := by decide +kernel
theorem dX9_players_145 : decode cX9_players 145 = .ok (.laload, 1) := by decide +kernel
theorem dX9_players_146 : decode cX9_players 146 = .ok (.invokestatic 110, 3) := by decide +kernel
theorem dX9_players_149 : decode cX9_players 149 = .ok (.ifCond .eq 7, 3) := by decide +kernel
theorem dX9_players_152 : decode cX9_players 152 = .ok (.iconst 1, 1) := by decide +kernel
theorem dX9_players_153 : decode cX9_players 153 = .ok (.goto 4, 3) := by decide +kernel
theorem dX9_players_156 : decode cX9_players 156 = .ok (.iconst 0, 1) := by decide +kernel
theorem dX9_players_157 : decode cX9_players 157 = .ok (.istore 5, 2) := by decide +kernel
theorem dX9_players_159 : decode cX9_players 159 = .ok (.iload 5, 2) := by decide +kernel
theorem dX9_players_161 : decode cX9_players 161 = .ok (.ifCond .eq 28, 3) := by decide +kernel
theorem dX9_players_164 : decode cX9_players 164 = .ok (.aload_n 0, 1) := by decide +kernel
theorem dX9_players_165 : decode cX9_players 165 = .ok (.aload_n 0, 1) := by decide +kernel
theorem dX9_players_166 : decode cX9_players 166 = .ok (.getfield 77, 3) := by decide +kernel
theorem dX9_players_169 : decode cX9_players 169 = .ok (.iload 6, 2) := by decide +kernel
theorem dX9_players_171 : decode cX9_players 171 = .ok (.laload, 1) := by decide +kernel
theorem dX9_players_172 : decode cX9_players 172 = .ok (.l2i, 1) := by decide +kernel
theorem dX9_players_173 : decode cX9_players 173 = .ok (.aload_n 0, 1) := by decide +kernel
theorem dX9_players_174 : decode cX9_players 174 = .ok (.getfield 77, 3) := by decide +kernel
theorem dX9_players_177 : decode cX9_players 177 = .ok (.iload 6, 2) := by decide +kernel
theorem dX9_players_179 : decode cX9_players 179 = .ok (.iconst 1, 1) := by decide +kernel
theorem dX9_players_180 : decode cX9_players 180 = .ok (.iadd, 1) := by decide +kernel
theorem dX9_players_181 : decode cX9_players 181 = .ok (.laload, 1) := by decide +kernel
theorem dX9_players_182 : decode cX9_players 182 = .ok (.l2i, 1) := by decide +kernel
theorem dX9_players_183 : decode cX9_players 183 = .ok (.invokevirtual 114, 3) := by decide +kernel
theorem dX9_players_186 : decode cX9_players 186 = .ok (.iinc 4 1, 3) := by decide +kernel
theorem dX9_players_189 : decode cX9_players 189 = .ok (.goto (-120), 3) := by decide +kernel
theorem dX9_players_192 : decode cX9_players 192 = .ok (.iload 4, 2) := by decide +kernel
theorem dX9_players_194 : decode cX9_players 194 = .ok (.ireturn, 1) := by decide +kernel
theorem dX9_mend_0 : decode cX9_mend 0 = .ok (.aload_n 0, 1) := by decide +kernel
theorem dX9_mend_1 : decode cX9_mend 1 = .ok (.iload_n 1, 1) := by decide +kernel
theorem dX9_mend_2 : decode cX9_mend 2 = .ok (.invokevirtual 124, 3) := by decide +kernel
theorem dX9_mend_5 : decode cX9_mend 5 = .ok (.ifCond .ne 5, 3) := by decide +kernel
theorem dX9_mend_8 : decode cX9_mend 8 = .ok (.iconst (-1), 1) := by decide +kernel
theorem dX9_mend_9 : decode cX9_mend 9 = .ok (.ireturn, 1) := by decide +kernel
theorem dX9_mend_10 : decode cX9_mend 10 = .ok (.iload_n 2, 1) := by decide +kernel
theorem dX9_mend_11 : decode cX9_mend 11 = .ok (.tableswitch 99 0 2 #[25, 48, 73], 25) := by decide +kernel
theorem dX9_mend_36 : decode cX9_mend 36 = .ok (.iload_n 3, 1) := by decide +kernel
theorem dX9_mend_37 : decode cX9_mend 37 = .ok (.i2l, 1) := by decide +kernel
theorem dX9_mend_38 : decode cX9_mend 38 = .ok (.lconst 0, 1) := by decide +kernel
theorem dX9_mend_39 : decode cX9_mend 39 = .ok (.ldc2_w 103, 3) := by decide +kernel
theorem dX9_mend_42 : decode cX9_mend 42 = .ok (.invokestatic 99, 3) := by decide +kernel
theorem dX9_mend_45 : decode cX9_mend 45 = .ok (.ifCond .eq 12, 3) := by decide +kernel
theorem dX9_mend_48 : decode cX9_mend 48 = .ok (.aload_n 0, 1) := by decide +kernel
theorem dX9_mend_49 : decode cX9_mend 49 = .ok (.iload_n 1, 1) := by decide +kernel
theorem dX9_mend_50 : decode cX9_mend 50 = .ok (.iload_n 3, 1) := by decide +kernel
theorem dX9_mend_51 : decode cX9_mend 51 = .ok (.invokevirtual 127, 3) := by decide +kernel
theorem dX9_mend_54 : decode cX9_mend 54 = .ok (.goto 4, 3) := by decide +kernel
theorem dX9_mend_57 : decode cX9_mend 57 = .ok (.iconst (-1), 1) := by decide +kernel
theorem dX9_mend_58 : decode cX9_mend 58 = .ok (.ireturn, 1) := by decide +kernel
theorem dX9_mend_59 : decode cX9_mend 59 = .ok (.iload_n 3, 1) := by decide +kernel
theorem dX9_mend_60 : decode cX9_mend 60 = .ok (.i2l, 1) := by decide +kernel
theorem dX9_mend_61 : decode cX9_mend 61 = .ok (.lconst 0, 1) := by decide +kernel
theorem dX9_mend_62 : decode cX9_mend 62 = .ok (.ldc2_w 105, 3) := by decide +kernel
theorem dX9_mend_65 : decode cX9_mend 65 = .ok (.invokestatic 99, 3) := by decide +kernel
theorem dX9_mend_68 : decode cX9_mend 68 = .ok (.ifCond .eq 14, 3) := by decide +kernel
theorem dX9_mend_71 : decode cX9_mend 71 = .ok (.aload_n 0, 1) := by decide +kernel
theorem dX9_mend_72 : decode cX9_mend 72 = .ok (.iconst 4, 1) := by decide +kernel
theorem dX9_mend_73 : decode cX9_mend 73 = .ok (.iload_n 1, 1) := by decide +kernel
theorem dX9_mend_74 : decode cX9_mend 74 = .ok (.iadd, 1) := by decide +kernel
theorem dX9_mend_75 : decode cX9_mend 75 = .ok (.iload_n 3, 1) := by decide +kernel
theorem dX9_mend_76 : decode cX9_mend 76 = .ok (.invokevirtual 127, 3) := by decide +kernel
theorem dX9_mend_79 : decode cX9_mend 79 = .ok (.goto 4, 3) := by decide +kernel
theorem dX9_mend_82 : decode cX9_mend 82 = .ok (.iconst (-1), 1) := by decide +kernel
theorem dX9_mend_83 : decode cX9_mend 83 = .ok (.ireturn, 1) := by decide +kernel
theorem dX9_mend_84 : decode cX9_mend 84 = .ok (.iload_n 3, 1) := by decide +kernel
theorem dX9_mend_85 : decode cX9_mend 85 = .ok (.i2l, 1) := by decide +kernel
theorem dX9_mend_86 : decode cX9_mend 86 = .ok (.lconst 0, 1) := by decide +kernel
theorem dX9_mend_87 : decode cX9_mend 87 = .ok (.ldc2_w 131, 3) := by decide +kernel
theorem dX9_mend_90 : decode cX9_mend 90 = .ok (.invokestatic 99, 3) := by decide +kernel
theorem dX9_mend_93 : decode cX9_mend 93 = .ok (.ifCond .eq 15, 3) := by decide +kernel
theorem dX9_mend_96 : decode cX9_mend 96 = .ok (.aload_n 0, 1) := by decide +kernel
theorem dX9_mend_97 : decode cX9_mend 97 = .ok (.bipush 8, 2) := by decide +kernel
theorem dX9_mend_99 : decode cX9_mend 99 = .ok (.iload_n 1, 1) := by decide +kernel
theorem dX9_mend_100 : decode cX9_mend 100 = .ok (.iadd, 1) := by decide +kernel
theorem dX9_mend_101 : decode cX9_mend 101 = .ok (.iload_n 3, 1) := by decide +kernel
theorem dX9_mend_102 : decode cX9_mend 102 = .ok (.invokevirtual 127, 3) := by decide +kernel
theorem dX9_mend_105 : decode cX9_mend 105 = .ok (.goto 4, 3) := by decide +kernel
theorem dX9_mend_108 : decode cX9_mend 108 = .ok (.iconst (-1), 1) := by decide +kernel
theorem dX9_mend_109 : decode cX9_mend 109 = .ok (.ireturn, 1) := by decide +kernel
theorem dX9_mend_110 : decode cX9_mend 110 = .ok (.iconst (-1), 1) := by decide +kernel
theorem dX9_mend_111 : decode cX9_mend 111 = .ok (.ireturn, 1) := by decide +kernel
theorem dX9_order_0 : decode cX9_order 0 = .ok (.iconst 0, 1) := by decide +kernel
theorem dX9_order_1 : decode cX9_order 1 = .ok (.istore_n 2, 1) := by decide +kernel
theorem dX9_order_2 : decode cX9_order 2 = .ok (.iload_n 1, 1) := by decide +kernel
theorem dX9_order_3 : decode cX9_order 3 = .ok (.istore_n 3, 1) := by decide +kernel
theorem dX9_order_4 : decode cX9_order 4 = .ok (.aload_n 0, 1) := by decide +kernel
theorem dX9_order_5 : decode cX9_order 5 = .ok (.getfield 96, 3) := by decide +kernel
theorem dX9_order_8 : decode cX9_order 8 = .ok (.iconst 1, 1) := by decide +kernel
theorem dX9_order_9 : decode cX9_order 9 = .ok (.isub, 1) := by decide +kernel
theorem dX9_order_10 : decode cX9_order 10 = .ok (.istore 4, 2) := by decide +kernel
theorem dX9_order_12 : decode cX9_order 12 = .ok (.iload 4, 2) := by decide +kernel
theorem dX9_order_14 : decode cX9_order 14 = .ok (.ifCond .lt 62, 3) := by decide +kernel
theorem dX9_order_17 : decode cX9_order 17 = .ok (.iload_n 3, 1) := by decide +kernel
theorem dX9_order_18 : decode cX9_order 18 = .ok (.bipush 10, 2) := by decide +kernel
theorem dX9_order_20 : decode cX9_order 20 = .ok (.irem, 1) := by decide +kernel
theorem dX9_order_21 : decode cX9_order 21 = .ok (.iconst 1, 1) := by decide +kernel
theorem dX9_order_22 : decode cX9_order 22 = .ok (.isub, 1) := by decide +kernel
theorem dX9_order_23 : decode cX9_order 23 = .ok (.istore 5, 2) := by decide +kernel
theorem dX9_order_25 : decode cX9_order 25 = .ok (.iload_n 3, 1) := by decide +kernel
theorem dX9_order_26 : decode cX9_order 26 = .ok (.ifCond .le 21, 3) := by decide +kernel
theorem dX9_order_29 : decode cX9_order 29 = .ok (.aload_n 0, 1) := by decide +kernel
theorem dX9_order_30 : decode cX9_order 30 = .ok (.iload 5, 2) := by decide +kernel
theorem dX9_order_32 : decode cX9_order 32 = .ok (.invokevirtual 124, 3) := by decide +kernel
theorem dX9_order_35 : decode cX9_order 35 = .ok (.ifCond .eq 12, 3) := by decide +kernel
theorem dX9_order_38 : decode cX9_order 38 = .ok (.iload_n 2, 1) := by decide +kernel
theorem dX9_order_39 : decode cX9_order 39 = .ok (.iload 5, 2) := by decide +kernel
theorem dX9_order_41 : decode cX9_order 41 = .ok (.invokestatic 133, 3) := by decide +kernel
theorem dX9_order_44 : decode cX9_order 44 = .ok (.ifCond .eq 5, 3) := by decide +kernel
theorem dX9_order_47 : decode cX9_order 47 = .ok (.iconst (-1), 1) := by decide +kernel
theorem dX9_order_48 : decode cX9_order 48 = .ok (.ireturn, 1) := by decide +kernel
theorem dX9_order_49 : decode cX9_order 49 = .ok (.iload_n 2, 1) := by decide +kernel
theorem dX9_order_50 : decode cX9_order 50 = .ok (.iconst 1, 1) := by decide +kernel
theorem dX9_order_51 : decode cX9_order 51 = .ok (.iload 5, 2) := by decide +kernel
theorem dX9_order_53 : decode cX9_order 53 = .ok (.ishl, 1) := by decide +kernel
theorem dX9_order_54 : decode cX9_order 54 = .ok (.ior, 1) := by decide +kernel
theorem dX9_order_55 : decode cX9_order 55 = .ok (.istore_n 2, 1) := by decide +kernel
theorem dX9_order_56 : decode cX9_order 56 = .ok (.aload_n 0, 1) := by decide +kernel
theorem dX9_order_57 : decode cX9_order 57 = .ok (.getfield 31, 3) := by decide +kernel
theorem dX9_order_60 : decode cX9_order 60 = .ok (.iload 4, 2) := by decide +kernel
theorem dX9_order_62 : decode cX9_order 62 = .ok (.iload 5, 2) := by decide +kernel
theorem dX9_order_64 : decode cX9_order 64 = .ok (.iastore, 1) := by decide +kernel
theorem dX9_order_65 : decode cX9_order 65 = .ok (.iload_n 3, 1) := by decide +kernel
theorem dX9_order_66 : decode cX9_order 66 = .ok (.bipush 10, 2) := by decide +kernel
theorem dX9_order_68 : decode cX9_order 68 = .ok (.idiv, 1) := by decide +kernel
theorem dX9_order_69 : decode cX9_order 69 = .ok (.istore_n 3, 1) := by decide +kernel
theorem dX9_order_70 : decode cX9_order 70 = .ok (.iinc 4 (-1), 3) := by decide +kernel
theorem dX9_order_73 : decode cX9_order 73 = .ok (.goto (-61), 3) := by decide +kernel
theorem dX9_order_76 : decode cX9_order 76 = .ok (.iload_n 3, 1) := by decide +kernel
theorem dX9_order_77 : decode cX9_order 77 = .ok (.ifCond .eq 5, 3) := by decide +kernel
theorem dX9_order_80 : decode cX9_order 80 = .ok (.iconst (-1), 1) := by decide +kernel
theorem dX9_order_81 : decode cX9_order 81 = .ok (.ireturn, 1) := by decide +kernel
theorem dX9_order_82 : decode cX9_order 82 = .ok (.iconst 0, 1) := by decide +kernel
theorem dX9_order_83 : decode cX9_order 83 = .ok (.istore 4, 2) := by decide +kernel
theorem dX9_order_85 : decode cX9_order 85 = .ok (.iload 4, 2) := by decide +kernel
theorem dX9_order_87 : decode cX9_order 87 = .ok (.aload_n 0, 1) := by decide +kernel
theorem dX9_order_88 : decode cX9_order 88 = .ok (.getfield 96, 3) := by decide +kernel
theorem dX9_order_91 : decode cX9_order 91 = .ok (.if_icmp .ge 37, 3) := by decide +kernel
theorem dX9_order_94 : decode cX9_order 94 = .ok (.aload_n 0, 1) := by decide +kernel
theorem dX9_order_95 : decode cX9_order 95 = .ok (.getfield 22, 3) := by decide +kernel
theorem dX9_order_98 : decode cX9_order 98 = .ok (.iload 4, 2) := by decide +kernel
theorem dX9_order_100 : decode cX9_order 100 = .ok (.aload_n 0, 1) := by decide +kernel
theorem dX9_order_101 : decode cX9_order 101 = .ok (.getfield 31, 3) := by decide +kernel
theorem dX9_order_104 : decode cX9_order 104 = .ok (.iload 4, 2) := by decide +kernel
theorem dX9_order_106 : decode cX9_order 106 = .ok (.iaload, 1) := by decide +kernel
theorem dX9_order_107 : decode cX9_order 107 = .ok (.iastore, 1) := by decide +kernel
theorem dX9_order_108 : decode cX9_order 108 = .ok (.aload_n 0, 1) := by decide +kernel
theorem dX9_order_109 : decode cX9_order 109 = .ok (.getfield 25, 3) := by decide +kernel
theorem dX9_order_112 : decode cX9_order 112 = .ok (.aload_n 0, 1) := by decide +kernel
theorem dX9_order_113 : decode cX9_order 113 = .ok (.getfield 31, 3) := by decide +kernel
theorem dX9_order_116 : decode cX9_order 116 = .ok (.iload 4, 2) := by decide +kernel
theorem dX9_order_118 : decode cX9_order 118 = .ok (.iaload, 1) := by decide +kernel
theorem dX9_order_119 : decode cX9_order 119 = .ok (.iload 4, 2) := by decide +kernel
theorem dX9_order_121 : decode cX9_order 121 = .ok (.iastore, 1) := by decide +kernel
theorem dX9_order_122 : decode cX9_order 122 = .ok (.iinc 4 1, 3) := by decide +kernel
theorem dX9_order_125 : decode cX9_order 125 = .ok (.goto (-40), 3) := by decide +kernel
theorem dX9_order_128 : decode cX9_order 128 = .ok (.aload_n 0, 1) := by decide +kernel
theorem dX9_order_129 : decode cX9_order 129 = .ok (.invokevirtual 107, 3) := by decide +kernel
theorem dX9_order_132 : decode cX9_order 132 = .ok (.iconst 1, 1) := by decide +kernel
theorem dX9_order_133 : decode cX9_order 133 = .ok (.ireturn, 1) := by decide +kernel
theorem dX9_bell_0 : decode cX9_bell 0 = .ok (.iload_n 1, 1) := by decide +kernel
theorem dX9_bell_1 : decode cX9_bell 1 = .ok (.i2l, 1) := by decide +kernel
theorem dX9_bell_2 : decode cX9_bell 2 = .ok (.lconst 0, 1) := by decide +kernel
theorem dX9_bell_3 : decode cX9_bell 3 = .ok (.ldc2_w 137, 3) := by decide +kernel
theorem dX9_bell_6 : decode cX9_bell 6 = .ok (.invokestatic 99, 3) := by decide +kernel
theorem dX9_bell_9 : decode cX9_bell 9 = .ok (.ifCond .ne 5, 3) := by decide +kernel
theorem dX9_bell_12 : decode cX9_bell 12 = .ok (.iconst (-1), 1) := by decide +kernel
theorem dX9_bell_13 : decode cX9_bell 13 = .ok (.ireturn, 1) := by decide +kernel
theorem dX9_bell_14 : decode cX9_bell 14 = .ok (.aload_n 0, 1) := by decide +kernel
theorem dX9_bell_15 : decode cX9_bell 15 = .ok (.getfield 87, 3) := by decide +kernel
theorem dX9_bell_18 : decode cX9_bell 18 = .ok (.istore_n 2, 1) := by decide +kernel
theorem dX9_bell_19 : decode cX9_bell 19 = .ok (.aload_n 0, 1) := by decide +kernel
theorem dX9_bell_20 : decode cX9_bell 20 = .ok (.iload_n 1, 1) := by decide +kernel
theorem dX9_bell_21 : decode cX9_bell 21 = .ok (.putfield 87, 3) := by decide +kernel
theorem dX9_bell_24 : decode cX9_bell 24 = .ok (.aload_n 0, 1) := by decide +kernel
theorem dX9_bell_25 : decode cX9_bell 25 = .ok (.invokevirtual 107, 3) := by decide +kernel
theorem dX9_bell_28 : decode cX9_bell 28 = .ok (.iload_n 2, 1) := by decide +kernel
theorem dX9_bell_29 : decode cX9_bell 29 = .ok (.ireturn, 1) := by decide +kernel
theorem dX9_prize_0 : decode cX9_prize 0 = .ok (.iload_n 1, 1) := by decide +kernel
theorem dX9_prize_1 : decode cX9_prize 1 = .ok (.i2l, 1) := by decide +kernel
theorem dX9_prize_2 : decode cX9_prize 2 = .ok (.lconst 1, 1) := by decide +kernel
theorem dX9_prize_3 : decode cX9_prize 3 = .ok (.ldc2_w 122, 3) := by decide +kernel
theorem dX9_prize_6 : decode cX9_prize 6 = .ok (.invokestatic 99, 3) := by decide +kernel
theorem dX9_prize_9 : decode cX9_prize 9 = .ok (.ifCond .eq 15, 3) := by decide +kernel
theorem dX9_prize_12 : decode cX9_prize 12 = .ok (.iload_n 2, 1) := by decide +kernel
theorem dX9_prize_13 : decode cX9_prize 13 = .ok (.i2l, 1) := by decide +kernel
theorem dX9_prize_14 : decode cX9_prize 14 = .ok (.lconst 0, 1) := by decide +kernel
theorem dX9_prize_15 : decode cX9_prize 15 = .ok (.ldc2_w 137, 3) := by decide +kernel
theorem dX9_prize_18 : decode cX9_prize 18 = .ok (.invokestatic 99, 3) := by decide +kernel
theorem dX9_prize_21 : decode cX9_prize 21 = .ok (.ifCond .ne 5, 3) := by decide +kernel
theorem dX9_prize_24 : decode cX9_prize 24 = .ok (.iconst (-1), 1) := by decide +kernel
theorem dX9_prize_25 : decode cX9_prize 25 = .ok (.ireturn, 1) := by decide +kernel
theorem dX9_prize_26 : decode cX9_prize 26 = .ok (.aload_n 0, 1) := by decide +kernel
theorem dX9_prize_27 : decode cX9_prize 27 = .ok (.getfield 28, 3) := by decide +kernel
theorem dX9_prize_30 : decode cX9_prize 30 = .ok (.iload_n 1, 1) := by decide +kernel
theorem dX9_prize_31 : decode cX9_prize 31 = .ok (.iaload, 1) := by decide +kernel
theorem dX9_prize_32 : decode cX9_prize 32 = .ok (.istore_n 3, 1) := by decide +kernel
theorem dX9_prize_33 : decode cX9_prize 33 = .ok (.aload_n 0, 1) := by decide +kernel
theorem dX9_prize_34 : decode cX9_prize 34 = .ok (.getfield 28, 3) := by decide +kernel
theorem dX9_prize_37 : decode cX9_prize 37 = .ok (.iload_n 1, 1) := by decide +kernel
theorem dX9_prize_38 : decode cX9_prize 38 = .ok (.iload_n 2, 1) := by decide +kernel
theorem dX9_prize_39 : decode cX9_prize 39 = .ok (.iastore, 1) := by decide +kernel
theorem dX9_prize_40 : decode cX9_prize 40 = .ok (.iload_n 3, 1) := by decide +kernel
theorem dX9_prize_41 : decode cX9_prize 41 = .ok (.ireturn, 1) := by decide +kernel
theorem dX9_of_0 : decode cX9_of 0 = .ok (.aload_n 0, 1) := by decide +kernel
theorem dX9_of_1 : decode cX9_of 1 = .ok (.iload_n 1, 1) := by decide +kernel
theorem dX9_of_2 : decode cX9_of 2 = .ok (.invokevirtual 124, 3) := by decide +kernel
theorem dX9_of_5 : decode cX9_of 5 = .ok (.ifCond .ne 5, 3) := by decide +kernel
theorem dX9_of_8 : decode cX9_of 8 = .ok (.iconst (-1), 1) := by decide +kernel
theorem dX9_of_9 : decode cX9_of 9 = .ok (.ireturn, 1) := by decide +kernel
theorem dX9_of_10 : decode cX9_of 10 = .ok (.iload_n 2, 1) := by decide +kernel
theorem dX9_of_11 : decode cX9_of 11 = .ok (.tableswitch 68 0 4 #[33, 33, 33, 44, 51], 33) := by decide +kernel
theorem dX9_of_44 : decode cX9_of 44 = .ok (.aload_n 0, 1) := by decide +kernel
theorem dX9_of_45 : decode cX9_of 45 = .ok (.getfield 9, 3) := by decide +kernel
theorem dX9_of_48 : decode cX9_of 48 = .ok (.iconst 4, 1) := by decide +kernel
theorem dX9_of_49 : decode cX9_of 49 = .ok (.iload_n 2, 1) := by decide +kernel
theorem dX9_of_50 : decode cX9_of 50 = .ok (.imul, 1) := by decide +kernel
theorem dX9_of_51 : decode cX9_of 51 = .ok (.iload_n 1, 1) := by decide +kernel
theorem dX9_of_52 : decode cX9_of 52 = .ok (.iadd, 1) := by decide +kernel
theorem dX9_of_53 : decode cX9_of 53 = .ok (.iaload, 1) := by decide +kernel
theorem dX9_of_54 : decode cX9_of 54 = .ok (.ireturn, 1) := by decide +kernel
theorem dX9_of_55 : decode cX9_of 55 = .ok (.aload_n 0, 1) := by decide +kernel
theorem dX9_of_56 : decode cX9_of 56 = .ok (.getfield 25, 3) := by decide +kernel
theorem dX9_of_59 : decode cX9_of 59 = .ok (.iload_n 1, 1) := by decide +kernel
theorem dX9_of_60 : decode cX9_of 60 = .ok (.iaload, 1) := by decide +kernel
theorem dX9_of_61 : decode cX9_of 61 = .ok (.ireturn, 1) := by decide +kernel
theorem dX9_of_62 : decode cX9_of 62 = .ok (.aload_n 0, 1) := by decide +kernel
theorem dX9_of_63 : decode cX9_of 63 = .ok (.getfield 139, 3) := by decide +kernel
theorem dX9_of_66 : decode cX9_of 66 = .ok (.iload_n 1, 1) := by decide +kernel
theorem dX9_of_67 : decode cX9_of 67 = .ok (.invokestatic 133, 3) := by decide +kernel
theorem dX9_of_70 : decode cX9_of 70 = .ok (.ifCond .eq 7, 3) := by decide +kernel
theorem dX9_of_73 : decode cX9_of 73 = .ok (.iconst 1, 1) := by decide +kernel
theorem dX9_of_74 : decode cX9_of 74 = .ok (.goto 4, 3) := by decide +kernel
theorem dX9_of_77 : decode cX9_of 77 = .ok (.iconst 0, 1) := by decide +kernel
theorem dX9_of_78 : decode cX9_of 78 = .ok (.ireturn, 1) := by decide +kernel
theorem dX9_of_79 : decode cX9_of 79 = .ok (.iconst (-1), 1) := by decide +kernel
theorem dX9_of_80 : decode cX9_of 80 = .ok (.ireturn, 1) := by decide +kernel
theorem dX9_feed_0 : decode cX9_feed 0 = .ok (.iload_n 1, 1) := by decide +kernel
theorem dX9_feed_1 : decode cX9_feed 1 = .ok (.i2l, 1) := by decide +kernel
theorem dX9_feed_2 : decode cX9_feed 2 = .ok (.lconst 0, 1) := by decide +kernel
theorem dX9_feed_3 : decode cX9_feed 3 = .ok (.ldc2_w 142, 3) := by decide +kernel
theorem dX9_feed_6 : decode cX9_feed 6 = .ok (.invokestatic 99, 3) := by decide +kernel
theorem dX9_feed_9 : decode cX9_feed 9 = .ok (.ifCond .ne 5, 3) := by decide +kernel
theorem dX9_feed_12 : decode cX9_feed 12 = .ok (.iconst (-1), 1) := by decide +kernel
theorem dX9_feed_13 : decode cX9_feed 13 = .ok (.ireturn, 1) := by decide +kernel
theorem dX9_feed_14 : decode cX9_feed 14 = .ok (.aload_n 0, 1) := by decide +kernel
theorem dX9_feed_15 : decode cX9_feed 15 = .ok (.getfield 144, 3) := by decide +kernel
theorem dX9_feed_18 : decode cX9_feed 18 = .ok (.bipush 120, 2) := by decide +kernel
theorem dX9_feed_20 : decode cX9_feed 20 = .ok (.if_icmp .ne 6, 3) := by decide +kernel
theorem dX9_feed_23 : decode cX9_feed 23 = .ok (.bipush (-3), 2) := by decide +kernel
theorem dX9_feed_25 : decode cX9_feed 25 = .ok (.ireturn, 1) := by decide +kernel
theorem dX9_feed_26 : decode cX9_feed 26 = .ok (.aload_n 0, 1) := by decide +kernel
theorem dX9_feed_27 : decode cX9_feed 27 = .ok (.getfield 34, 3) := by decide +kernel
theorem dX9_feed_30 : decode cX9_feed 30 = .ok (.aload_n 0, 1) := by decide +kernel
theorem dX9_feed_31 : decode cX9_feed 31 = .ok (.getfield 144, 3) := by decide +kernel
theorem dX9_feed_34 : decode cX9_feed 34 = .ok (.iload_n 1, 1) := by decide +kernel
theorem dX9_feed_35 : decode cX9_feed 35 = .ok (.iastore, 1) := by decide +kernel
theorem dX9_feed_36 : decode cX9_feed 36 = .ok (.aload_n 0, 1) := by decide +kernel
theorem dX9_feed_37 : decode cX9_feed 37 = .ok (.dup, 1) := by decide +kernel
theorem dX9_feed_38 : decode cX9_feed 38 = .ok (.getfield 144, 3) := by decide +kernel
theorem dX9_feed_41 : decode cX9_feed 41 = .ok (.iconst 1, 1) := by decide +kernel
theorem dX9_feed_42 : decode cX9_feed 42 = .ok (.iadd, 1) := by decide +kernel
theorem dX9_feed_43 : decode cX9_feed 43 = .ok (.putfield 144, 3) := by decide +kernel
theorem dX9_feed_46 : decode cX9_feed 46 = .ok (.aload_n 0, 1) := by decide +kernel
theorem dX9_feed_47 : decode cX9_feed 47 = .ok (.getfield 144, 3) := by decide +kernel
theorem dX9_feed_50 : decode cX9_feed 50 = .ok (.ireturn, 1) := by decide +kernel
theorem dX9_byteAt_0 : decode cX9_byteAt 0 = .ok (.aload_n 0, 1) := by decide +kernel
theorem dX9_byteAt_1 : decode cX9_byteAt 1 = .ok (.getfield 147, 3) := by decide +kernel
theorem dX9_byteAt_4 : decode cX9_byteAt 4 = .ok (.aload_n 0, 1) := by decide +kernel
theorem dX9_byteAt_5 : decode cX9_byteAt 5 = .ok (.getfield 150, 3) := by decide +kernel
theorem dX9_byteAt_8 : decode cX9_byteAt 8 = .ok (.if_icmp .ge 39, 3) := by decide +kernel
theorem dX9_byteAt_11 : decode cX9_byteAt 11 = .ok (.aload_n 0, 1) := by decide +kernel
theorem dX9_byteAt_12 : decode cX9_byteAt 12 = .ok (.getfield 153, 3) := by decide +kernel
theorem dX9_byteAt_15 : decode cX9_byteAt 15 = .ok (.ifCond .ge 15, 3) := by decide +kernel
theorem dX9_byteAt_18 : decode cX9_byteAt 18 = .ok (.aload_n 0, 1) := by decide +kernel
theorem dX9_byteAt_19 : decode cX9_byteAt 19 = .ok (.getfield 34, 3) := by decide +kernel
theorem dX9_byteAt_22 : decode cX9_byteAt 22 = .ok (.aload_n 0, 1) := by decide +kernel
theorem dX9_byteAt_23 : decode cX9_byteAt 23 = .ok (.getfield 147, 3) := by decide +kernel
theorem dX9_byteAt_26 : decode cX9_byteAt 26 = .ok (.iaload, 1) := by decide +kernel
theorem dX9_byteAt_27 : decode cX9_byteAt 27 = .ok (.goto 21, 3) := by decide +kernel
theorem dX9_byteAt_30 : decode cX9_byteAt 30 = .ok (.aload_n 0, 1) := by decide +kernel
theorem dX9_byteAt_31 : decode cX9_byteAt 31 = .ok (.getfield 37, 3) := by decide +kernel
theorem dX9_byteAt_34 : decode cX9_byteAt 34 = .ok (.aload_n 0, 1) := by decide +kernel
theorem dX9_byteAt_35 : decode cX9_byteAt 35 = .ok (.getfield 153, 3) := by decide +kernel
theorem dX9_byteAt_38 : decode cX9_byteAt 38 = .ok (.aload_n 0, 1) := by decide +kernel
theorem dX9_byteAt_39 : decode cX9_byteAt 39 = .ok (.getfield 147, 3) := by decide +kernel
theorem dX9_byteAt_42 : decode cX9_byteAt 42 = .ok (.iadd, 1) := by decide +kernel
theorem dX9_byteAt_43 : decode cX9_byteAt 43 = .ok (.iaload, 1) := by decide +kernel
theorem dX9_byteAt_44 : decode cX9_byteAt 44 = .ok (.goto 4, 3) := by decide +kernel
theorem dX9_byteAt_47 : decode cX9_byteAt 47 = .ok (.iconst 0, 1) := by decide +kernel
theorem dX9_byteAt_48 : decode cX9_byteAt 48 = .ok (.ireturn, 1) := by decide +kernel
theorem dX9_wrong_0 : decode cX9_wrong 0 = .ok (.aload_n 0, 1) := by decide +kernel
theorem dX9_wrong_1 : decode cX9_wrong 1 = .ok (.aload_n 0, 1) := by decide +kernel
theorem dX9_wrong_2 : decode cX9_wrong 2 = .ok (.getfield 156, 3) := by decide +kernel
theorem dX9_wrong_5 : decode cX9_wrong 5 = .ok (.ifCond .ge 10, 3) := by decide +kernel
theorem dX9_wrong_8 : decode cX9_wrong 8 = .ok (.aload_n 0, 1) := by decide +kernel
theorem dX9_wrong_9 : decode cX9_wrong 9 = .ok (.getfield 147, 3) := by decide +kernel
theorem dX9_wrong_12 : decode cX9_wrong 12 = .ok (.goto 7, 3) := by decide +kernel
theorem dX9_wrong_15 : decode cX9_wrong 15 = .ok (.aload_n 0, 1) := by decide +kernel
theorem dX9_wrong_16 : decode cX9_wrong 16 = .ok (.getfield 156, 3) := by decide +kernel
theorem dX9_wrong_19 : decode cX9_wrong 19 = .ok (.putfield 156, 3) := by decide +kernel
theorem dX9_wrong_22 : decode cX9_wrong 22 = .ok (.iconst 0, 1) := by decide +kernel
theorem dX9_wrong_23 : decode cX9_wrong 23 = .ok (.ireturn, 1) := by decide +kernel
theorem dX9_takes_0 : decode cX9_takes 0 = .ok (.aload_n 0, 1) := by decide +kernel
theorem dX9_takes_1 : decode cX9_takes 1 = .ok (.getfield 156, 3) := by decide +kernel
theorem dX9_takes_4 : decode cX9_takes 4 = .ok (.ifCond .ge 11, 3) := by decide +kernel
theorem dX9_takes_7 : decode cX9_takes 7 = .ok (.aload_n 0, 1) := by decide +kernel
theorem dX9_takes_8 : decode cX9_takes 8 = .ok (.invokevirtual 159, 3) := by decide +kernel
theorem dX9_takes_11 : decode cX9_takes 11 = .ok (.iload_n 1, 1) := by decide +kernel
theorem dX9_takes_12 : decode cX9_takes 12 = .ok (.if_icmp .eq 5, 3) := by decide +kernel
theorem dX9_takes_15 : decode cX9_takes 15 = .ok (.iconst 0, 1) := by decide +kernel
theorem dX9_takes_16 : decode cX9_takes 16 = .ok (.ireturn, 1) := by decide +kernel
theorem dX9_takes_17 : decode cX9_takes 17 = .ok (.aload_n 0, 1) := by decide +kernel
theorem dX9_takes_18 : decode cX9_takes 18 = .ok (.dup, 1) := by decide +kernel
theorem dX9_takes_19 : decode cX9_takes 19 = .ok (.getfield 147, 3) := by decide +kernel
theorem dX9_takes_22 : decode cX9_takes 22 = .ok (.iconst 1, 1) := by decide +kernel
theorem dX9_takes_23 : decode cX9_takes 23 = .ok (.iadd, 1) := by decide +kernel
theorem dX9_takes_24 : decode cX9_takes 24 = .ok (.putfield 147, 3) := by decide +kernel
theorem dX9_takes_27 : decode cX9_takes 27 = .ok (.iconst 1, 1) := by decide +kernel
theorem dX9_takes_28 : decode cX9_takes 28 = .ok (.ireturn, 1) := by decide +kernel
theorem dX9_either_0 : decode cX9_either 0 = .ok (.aload_n 0, 1) := by decide +kernel
theorem dX9_either_1 : decode cX9_either 1 = .ok (.invokevirtual 163, 3) := by decide +kernel
theorem dX9_either_4 : decode cX9_either 4 = .ok (.istore_n 1, 1) := by decide +kernel
theorem dX9_either_5 : decode cX9_either 5 = .ok (.aload_n 0, 1) := by decide +kernel
theorem dX9_either_6 : decode cX9_either 6 = .ok (.bipush 124, 2) := by decide +kernel
theorem dX9_either_8 : decode cX9_either 8 = .ok (.invokevirtual 166, 3) := by decide +kernel
theorem dX9_either_11 : decode cX9_either 11 = .ok (.ifCond .eq 25, 3) := by decide +kernel
theorem dX9_either_14 : decode cX9_either 14 = .ok (.aload_n 0, 1) := by decide +kernel
theorem dX9_either_15 : decode cX9_either 15 = .ok (.invokevirtual 163, 3) := by decide +kernel
theorem dX9_either_18 : decode cX9_either 18 = .ok (.istore_n 2, 1) := by decide +kernel
theorem dX9_either_19 : decode cX9_either 19 = .ok (.iload_n 1, 1) := by decide +kernel
theorem dX9_either_20 : decode cX9_either 20 = .ok (.ifCond .ne 7, 3) := by decide +kernel
theorem dX9_either_23 : decode cX9_either 23 = .ok (.iload_n 2, 1) := by decide +kernel
theorem dX9_either_24 : decode cX9_either 24 = .ok (.ifCond .eq 7, 3) := by decide +kernel
theorem dX9_either_27 : decode cX9_either 27 = .ok (.iconst 1, 1) := by decide +kernel
theorem dX9_either_28 : decode cX9_either 28 = .ok (.goto 4, 3) := by decide +kernel
theorem dX9_either_31 : decode cX9_either 31 = .ok (.iconst 0, 1) := by decide +kernel
theorem dX9_either_32 : decode cX9_either 32 = .ok (.istore_n 1, 1) := by decide +kernel
theorem dX9_either_33 : decode cX9_either 33 = .ok (.goto (-28), 3) := by decide +kernel
theorem dX9_either_36 : decode cX9_either 36 = .ok (.iload_n 1, 1) := by decide +kernel
theorem dX9_either_37 : decode cX9_either 37 = .ok (.ireturn, 1) := by decide +kernel
theorem dX9_both_0 : decode cX9_both 0 = .ok (.aload_n 0, 1) := by decide +kernel
theorem dX9_both_1 : decode cX9_both 1 = .ok (.invokevirtual 169, 3) := by decide +kernel
theorem dX9_both_4 : decode cX9_both 4 = .ok (.istore_n 1, 1) := by decide +kernel
theorem dX9_both_5 : decode cX9_both 5 = .ok (.aload_n 0, 1) := by decide +kernel
theorem dX9_both_6 : decode cX9_both 6 = .ok (.bipush 38, 2) := by decide +kernel
theorem dX9_both_8 : decode cX9_both 8 = .ok (.invokevirtual 166, 3) := by decide +kernel
theorem dX9_both_11 : decode cX9_both 11 = .ok (.ifCond .eq 25, 3) := by decide +kernel
theorem dX9_both_14 : decode cX9_both 14 = .ok (.aload_n 0, 1) := by decide +kernel
theorem dX9_both_15 : decode cX9_both 15 = .ok (.invokevirtual 169, 3) := by decide +kernel
theorem dX9_both_18 : decode cX9_both 18 = .ok (.istore_n 2, 1) := by decide +kernel
theorem dX9_both_19 : decode cX9_both 19 = .ok (.iload_n 1, 1) := by decide +kernel
theorem dX9_both_20 : decode cX9_both 20 = .ok (.ifCond .eq 11, 3) := by decide +kernel
theorem dX9_both_23 : decode cX9_both 23 = .ok (.iload_n 2, 1) := by decide +kernel
theorem dX9_both_24 : decode cX9_both 24 = .ok (.ifCond .eq 7, 3) := by decide +kernel
theorem dX9_both_27 : decode cX9_both 27 = .ok (.iconst 1, 1) := by decide +kernel
theorem dX9_both_28 : decode cX9_both 28 = .ok (.goto 4, 3) := by decide +kernel
theorem dX9_both_31 : decode cX9_both 31 = .ok (.iconst 0, 1) := by decide +kernel
theorem dX9_both_32 : decode cX9_both 32 = .ok (.istore_n 1, 1) := by decide +kernel
theorem dX9_both_33 : decode cX9_both 33 = .ok (.goto (-28), 3) := by decide +kernel
theorem dX9_both_36 : decode cX9_both 36 = .ok (.iload_n 1, 1) := by decide +kernel
theorem dX9_both_37 : decode cX9_both 37 = .ok (.ireturn, 1) := by decide +kernel
theorem dX9_compared_0 : decode cX9_compared 0 = .ok (.aload_n 0, 1) := by decide +kernel
theorem dX9_compared_1 : decode cX9_compared 1 = .ok (.invokevirtual 172, 3) := by decide +kernel
theorem dX9_compared_4 : decode cX9_compared 4 = .ok (.istore_n 1, 1) := by decide +kernel
theorem dX9_compared_5 : decode cX9_compared 5 = .ok (.aload_n 0, 1) := by decide +kernel
theorem dX9_compared_6 : decode cX9_compared 6 = .ok (.invokevirtual 159, 3) := by decide +kernel
theorem dX9_compared_9 : decode cX9_compared 9 = .ok (.istore_n 2, 1) := by decide +kernel
theorem dX9_compared_10 : decode cX9_compared 10 = .ok (.aload_n 0, 1) := by decide +kernel
theorem dX9_compared_11 : decode cX9_compared 11 = .ok (.getfield 156, 3) := by decide +kernel
theorem dX9_compared_14 : decode cX9_compared 14 = .ok (.ifCond .ge 21, 3) := by decide +kernel
theorem dX9_compared_17 : decode cX9_compared 17 = .ok (.iload_n 2, 1) := by decide +kernel
theorem dX9_compared_18 : decode cX9_compared 18 = .ok (.bipush 60, 2) := by decide +kernel
theorem dX9_compared_20 : decode cX9_compared 20 = .ok (.if_icmp .eq 17, 3) := by decide +kernel
theorem dX9_compared_23 : decode cX9_compared 23 = .ok (.iload_n 2, 1) := by decide +kernel
theorem dX9_compared_24 : decode cX9_compared 24 = .ok (.bipush 61, 2) := by decide +kernel
theorem dX9_compared_26 : decode cX9_compared 26 = .ok (.if_icmp .eq 11, 3) := by decide +kernel
theorem dX9_compared_29 : decode cX9_compared 29 = .ok (.iload_n 2, 1) := by decide +kernel
theorem dX9_compared_30 : decode cX9_compared 30 = .ok (.bipush 62, 2) := by decide +kernel
theorem dX9_compared_32 : decode cX9_compared 32 = .ok (.if_icmp .eq 5, 3) := by decide +kernel
theorem dX9_compared_35 : decode cX9_compared 35 = .ok (.iload_n 1, 1) := by decide +kernel
theorem dX9_compared_36 : decode cX9_compared 36 = .ok (.ireturn, 1) := by decide +kernel
theorem dX9_compared_37 : decode cX9_compared 37 = .ok (.aload_n 0, 1) := by decide +kernel
theorem dX9_compared_38 : decode cX9_compared 38 = .ok (.dup, 1) := by decide +kernel
theorem dX9_compared_39 : decode cX9_compared 39 = .ok (.getfield 147, 3) := by decide +kernel
theorem dX9_compared_42 : decode cX9_compared 42 = .ok (.iconst 1, 1) := by decide +kernel
theorem dX9_compared_43 : decode cX9_compared 43 = .ok (.iadd, 1) := by decide +kernel
theorem dX9_compared_44 : decode cX9_compared 44 = .ok (.putfield 147, 3) := by decide +kernel
theorem dX9_compared_47 : decode cX9_compared 47 = .ok (.aload_n 0, 1) := by decide +kernel
theorem dX9_compared_48 : decode cX9_compared 48 = .ok (.invokevirtual 172, 3) := by decide +kernel
theorem dX9_compared_51 : decode cX9_compared 51 = .ok (.istore_n 3, 1) := by decide +kernel
theorem dX9_compared_52 : decode cX9_compared 52 = .ok (.iload_n 2, 1) := by decide +kernel
theorem dX9_compared_53 : decode cX9_compared 53 = .ok (.bipush 60, 2) := by decide +kernel
theorem dX9_compared_55 : decode cX9_compared 55 = .ok (.if_icmp .ne 11, 3) := by decide +kernel
theorem dX9_compared_58 : decode cX9_compared 58 = .ok (.iload_n 1, 1) := by decide +kernel
theorem dX9_compared_59 : decode cX9_compared 59 = .ok (.iload_n 3, 1) := by decide +kernel
theorem dX9_compared_60 : decode cX9_compared 60 = .ok (.if_icmp .ge 29, 3) := by decide +kernel
theorem dX9_compared_63 : decode cX9_compared 63 = .ok (.goto 22, 3) := by decide +kernel
theorem dX9_compared_66 : decode cX9_compared 66 = .ok (.iload_n 2, 1) := by decide +kernel
theorem dX9_compared_67 : decode cX9_compared 67 = .ok (.bipush 61, 2) := by decide +kernel
theorem dX9_compared_69 : decode cX9_compared 69 = .ok (.if_icmp .ne 11, 3) := by decide +kernel
theorem dX9_compared_72 : decode cX9_compared 72 = .ok (.iload_n 1, 1) := by decide +kernel
theorem dX9_compared_73 : decode cX9_compared 73 = .ok (.iload_n 3, 1) := by decide +kernel
theorem dX9_compared_74 : decode cX9_compared 74 = .ok (.if_icmp .ne 15, 3) := by decide +kernel
theorem dX9_compared_77 : decode cX9_compared 77 = .ok (.goto 8, 3) := by decide +kernel
theorem dX9_compared_80 : decode cX9_compared 80 = .ok (.iload_n 1, 1) := by decide +kernel
theorem dX9_compared_81 : decode cX9_compared 81 = .ok (.iload_n 3, 1) := by decide +kernel
theorem dX9_compared_82 : decode cX9_compared 82 = .ok (.if_icmp .le 7, 3) := by decide +kernel
theorem dX9_compared_85 : decode cX9_compared 85 = .ok (.iconst 1, 1) := by decide +kernel
theorem dX9_compared_86 : decode cX9_compared 86 = .ok (.goto 4, 3) := by decide +kernel
theorem dX9_compared_89 : decode cX9_compared 89 = .ok (.iconst 0, 1) := by decide +kernel
theorem dX9_compared_90 : decode cX9_compared 90 = .ok (.ireturn, 1) := by decide +kernel
theorem dX9_sums_0 : decode cX9_sums 0 = .ok (.aload_n 0, 1) := by decide +kernel
theorem dX9_sums_1 : decode cX9_sums 1 = .ok (.invokevirtual 175, 3) := by decide +kernel
theorem dX9_sums_4 : decode cX9_sums 4 = .ok (.istore_n 1, 1) := by decide +kernel
theorem dX9_sums_5 : decode cX9_sums 5 = .ok (.aload_n 0, 1) := by decide +kernel
theorem dX9_sums_6 : decode cX9_sums 6 = .ok (.getfield 156, 3) := by decide +kernel
theorem dX9_sums_9 : decode cX9_sums 9 = .ok (.ifCond .ge 68, 3) := by decide +kernel
theorem dX9_sums_12 : decode cX9_sums 12 = .ok (.aload_n 0, 1) := by decide +kernel
theorem dX9_sums_13 : decode cX9_sums 13 = .ok (.invokevirtual 159, 3) := by decide +kernel
theorem dX9_sums_16 : decode cX9_sums 16 = .ok (.bipush 43, 2) := by decide +kernel
theorem dX9_sums_18 : decode cX9_sums 18 = .ok (.if_icmp .eq 12, 3) := by decide +kernel
theorem dX9_sums_21 : decode cX9_sums 21 = .ok (.aload_n 0, 1) := by decide +kernel
theorem dX9_sums_22 : decode cX9_sums 22 = .ok (.invokevirtual 159, 3) := by decide +kernel
theorem dX9_sums_25 : decode cX9_sums 25 = .ok (.bipush 45, 2) := by decide +kernel
theorem dX9_sums_27 : decode cX9_sums 27 = .ok (.if_icmp .ne 50, 3) := by decide +kernel
theorem dX9_sums_30 : decode cX9_sums 30 = .ok (.aload_n 0, 1) := by decide +kernel
theorem dX9_sums_31 : decode cX9_sums 31 = .ok (.invokevirtual 159, 3) := by decide +kernel
theorem dX9_sums_34 : decode cX9_sums 34 = .ok (.bipush 43, 2) := by decide +kernel
theorem dX9_sums_36 : decode cX9_sums 36 = .ok (.if_icmp .ne 7, 3) := by decide +kernel
theorem dX9_sums_39 : decode cX9_sums 39 = .ok (.iconst 1, 1) := by decide +kernel
theorem dX9_sums_40 : decode cX9_sums 40 = .ok (.goto 4, 3) := by decide +kernel
theorem dX9_sums_43 : decode cX9_sums 43 = .ok (.iconst 0, 1) := by decide +kernel
theorem dX9_sums_44 : decode cX9_sums 44 = .ok (.istore_n 2, 1) := by decide +kernel
theorem dX9_sums_45 : decode cX9_sums 45 = .ok (.aload_n 0, 1) := by decide +kernel
theorem dX9_sums_46 : decode cX9_sums 46 = .ok (.dup, 1) := by decide +kernel
theorem dX9_sums_47 : decode cX9_sums 47 = .ok (.getfield 147, 3) := by decide +kernel
theorem dX9_sums_50 : decode cX9_sums 50 = .ok (.iconst 1, 1) := by decide +kernel
theorem dX9_sums_51 : decode cX9_sums 51 = .ok (.iadd, 1) := by decide +kernel
theorem dX9_sums_52 : decode cX9_sums 52 = .ok (.putfield 147, 3) := by decide +kernel
theorem dX9_sums_55 : decode cX9_sums 55 = .ok (.aload_n 0, 1) := by decide +kernel
theorem dX9_sums_56 : decode cX9_sums 56 = .ok (.invokevirtual 175, 3) := by decide +kernel
theorem dX9_sums_59 : decode cX9_sums 59 = .ok (.istore_n 3, 1) := by decide +kernel
theorem dX9_sums_60 : decode cX9_sums 60 = .ok (.iload_n 2, 1) := by decide +kernel
theorem dX9_sums_61 : decode cX9_sums 61 = .ok (.ifCond .eq 9, 3) := by decide +kernel
theorem dX9_sums_64 : decode cX9_sums 64 = .ok (.iload_n 1, 1) := by decide +kernel
theorem dX9_sums_65 : decode cX9_sums 65 = .ok (.iload_n 3, 1) := by decide +kernel
theorem dX9_sums_66 : decode cX9_sums 66 = .ok (.iadd, 1) := by decide +kernel
theorem dX9_sums_67 : decode cX9_sums 67 = .ok (.goto 6, 3) := by decide +kernel
theorem dX9_sums_70 : decode cX9_sums 70 = .ok (.iload_n 1, 1) := by decide +kernel
theorem dX9_sums_71 : decode cX9_sums 71 = .ok (.iload_n 3, 1) := by decide +kernel
theorem dX9_sums_72 : decode cX9_sums 72 = .ok (.isub, 1) := by decide +kernel
theorem dX9_sums_73 : decode cX9_sums 73 = .ok (.istore_n 1, 1) := by decide +kernel
theorem dX9_sums_74 : decode cX9_sums 74 = .ok (.goto (-69), 3) := by decide +kernel
theorem dX9_sums_77 : decode cX9_sums 77 = .ok (.iload_n 1, 1) := by decide +kernel
theorem dX9_sums_78 : decode cX9_sums 78 = .ok (.ireturn, 1) := by decide +kernel
theorem dX9_product_0 : decode cX9_product 0 = .ok (.aload_n 0, 1) := by decide +kernel
theorem dX9_product_1 : decode cX9_product 1 = .ok (.invokevirtual 178, 3) := by decide +kernel
theorem dX9_product_4 : decode cX9_product 4 = .ok (.istore_n 1, 1) := by decide +kernel
theorem dX9_product_5 : decode cX9_product 5 = .ok (.aload_n 0, 1) := by decide +kernel
theorem dX9_product_6 : decode cX9_product 6 = .ok (.invokevirtual 159, 3) := by decide +kernel
theorem dX9_product_9 : decode cX9_product 9 = .ok (.istore_n 2, 1) := by decide +kernel
theorem dX9_product_10 : decode cX9_product 10 = .ok (.aload_n 0, 1) := by decide +kernel
theorem dX9_product_11 : decode cX9_product 11 = .ok (.getfield 156, 3) := by decide +kernel
theorem dX9_product_14 : decode cX9_product 14 = .ok (.ifCond .ge 80, 3) := by decide +kernel
theorem dX9_product_17 : decode cX9_product 17 = .ok (.iload_n 2, 1) := by decide +kernel
theorem dX9_product_18 : decode cX9_product 18 = .ok (.bipush 42, 2) := by decide +kernel
theorem dX9_product_20 : decode cX9_product 20 = .ok (.if_icmp .eq 15, 3) := by decide +kernel
theorem dX9_product_23 : decode cX9_product 23 = .ok (.iload_n 2, 1) := by decide +kernel
theorem dX9_product_24 : decode cX9_product 24 = .ok (.bipush 47, 2) := by decide +kernel
theorem dX9_product_26 : decode cX9_product 26 = .ok (.if_icmp .eq 9, 3) := by decide +kernel
theorem dX9_product_29 : decode cX9_product 29 = .ok (.iload_n 2, 1) := by decide +kernel
theorem dX9_product_30 : decode cX9_product 30 = .ok (.bipush 37, 2) := by decide +kernel
theorem dX9_product_32 : decode cX9_product 32 = .ok (.if_icmp .ne 62, 3) := by decide +kernel
theorem dX9_product_35 : decode cX9_product 35 = .ok (.aload_n 0, 1) := by decide +kernel
theorem dX9_product_36 : decode cX9_product 36 = .ok (.dup, 1) := by decide +kernel
theorem dX9_product_37 : decode cX9_product 37 = .ok (.getfield 147, 3) := by decide +kernel
theorem dX9_product_40 : decode cX9_product 40 = .ok (.iconst 1, 1) := by decide +kernel
theorem dX9_product_41 : decode cX9_product 41 = .ok (.iadd, 1) := by decide +kernel
theorem dX9_product_42 : decode cX9_product 42 = .ok (.putfield 147, 3) := by decide +kernel
theorem dX9_product_45 : decode cX9_product 45 = .ok (.aload_n 0, 1) := by decide +kernel
theorem dX9_product_46 : decode cX9_product 46 = .ok (.invokevirtual 178, 3) := by decide +kernel
theorem dX9_product_49 : decode cX9_product 49 = .ok (.istore_n 3, 1) := by decide +kernel
theorem dX9_product_50 : decode cX9_product 50 = .ok (.iload_n 2, 1) := by decide +kernel
theorem dX9_product_51 : decode cX9_product 51 = .ok (.bipush 42, 2) := by decide +kernel
theorem dX9_product_53 : decode cX9_product 53 = .ok (.if_icmp .ne 9, 3) := by decide +kernel
theorem dX9_product_56 : decode cX9_product 56 = .ok (.iload_n 1, 1) := by decide +kernel
theorem dX9_product_57 : decode cX9_product 57 = .ok (.iload_n 3, 1) := by decide +kernel
theorem dX9_product_58 : decode cX9_product 58 = .ok (.imul, 1) := by decide +kernel
theorem dX9_product_59 : decode cX9_product 59 = .ok (.goto 26, 3) := by decide +kernel
theorem dX9_product_62 : decode cX9_product 62 = .ok (.iload_n 3, 1) := by decide +kernel
theorem dX9_product_63 : decode cX9_product 63 = .ok (.ifCond .ne 7, 3) := by decide +kernel
theorem dX9_product_66 : decode cX9_product 66 = .ok (.iconst 0, 1) := by decide +kernel
theorem dX9_product_67 : decode cX9_product 67 = .ok (.goto 18, 3) := by decide +kernel
theorem dX9_product_70 : decode cX9_product 70 = .ok (.iload_n 2, 1) := by decide +kernel
theorem dX9_product_71 : decode cX9_product 71 = .ok (.bipush 47, 2) := by decide +kernel
theorem dX9_product_73 : decode cX9_product 73 = .ok (.if_icmp .ne 9, 3) := by decide +kernel
theorem dX9_product_76 : decode cX9_product 76 = .ok (.iload_n 1, 1) := by decide +kernel
theorem dX9_product_77 : decode cX9_product 77 = .ok (.iload_n 3, 1) := by decide +kernel
theorem dX9_product_78 : decode cX9_product 78 = .ok (.idiv, 1) := by decide +kernel
theorem dX9_product_79 : decode cX9_product 79 = .ok (.goto 6, 3) := by decide +kernel
theorem dX9_product_82 : decode cX9_product 82 = .ok (.iload_n 1, 1) := by decide +kernel
theorem dX9_product_83 : decode cX9_product 83 = .ok (.iload_n 3, 1) := by decide +kernel
theorem dX9_product_84 : decode cX9_product 84 = .ok (.irem, 1) := by decide +kernel
theorem dX9_product_85 : decode cX9_product 85 = .ok (.istore_n 1, 1) := by decide +kernel
theorem dX9_product_86 : decode cX9_product 86 = .ok (.aload_n 0, 1) := by decide +kernel
theorem dX9_product_87 : decode cX9_product 87 = .ok (.invokevirtual 159, 3) := by decide +kernel
theorem dX9_product_90 : decode cX9_product 90 = .ok (.istore_n 2, 1) := by decide +kernel
theorem dX9_product_91 : decode cX9_product 91 = .ok (.goto (-81), 3) := by decide +kernel
theorem dX9_product_94 : decode cX9_product 94 = .ok (.iload_n 1, 1) := by decide +kernel
theorem dX9_product_95 : decode cX9_product 95 = .ok (.ireturn, 1) := by decide +kernel
theorem dX9_nameOf_0 : decode cX9_nameOf 0 = .ok (.iload_n 0, 1) := by decide +kernel
theorem dX9_nameOf_1 : decode cX9_nameOf 1 = .ok (.lookupswitch 61 #[(97, 53), (104, 51), (109, 57), (110, 59), (116, 55)], 51) := by decide +kernel
theorem dX9_nameOf_52 : decode cX9_nameOf 52 = .ok (.iconst 0, 1) := by decide +kernel
theorem dX9_nameOf_53 : decode cX9_nameOf 53 = .ok (.ireturn, 1) := by decide +kernel
theorem dX9_nameOf_54 : decode cX9_nameOf 54 = .ok (.iconst 1, 1) := by decide +kernel
theorem dX9_nameOf_55 : decode cX9_nameOf 55 = .ok (.ireturn, 1) := by decide +kernel
theorem dX9_nameOf_56 : decode cX9_nameOf 56 = .ok (.iconst 2, 1) := by decide +kernel
theorem dX9_nameOf_57 : decode cX9_nameOf 57 = .ok (.ireturn, 1) := by decide +kernel
theorem dX9_nameOf_58 : decode cX9_nameOf 58 = .ok (.iconst 3, 1) := by decide +kernel
theorem dX9_nameOf_59 : decode cX9_nameOf 59 = .ok (.ireturn, 1) := by decide +kernel
theorem dX9_nameOf_60 : decode cX9_nameOf 60 = .ok (.iconst 4, 1) := by decide +kernel
theorem dX9_nameOf_61 : decode cX9_nameOf 61 = .ok (.ireturn, 1) := by decide +kernel
theorem dX9_nameOf_62 : decode cX9_nameOf 62 = .ok (.iconst (-1), 1) := by decide +kernel
theorem dX9_nameOf_63 : decode cX9_nameOf 63 = .ok (.ireturn, 1) := by decide +kernel
theorem dX9_one_0 : decode cX9_one 0 = .ok (.aload_n 0, 1) := by decide +kernel
theorem dX9_one_1 : decode cX9_one 1 = .ok (.getfield 156, 3) := by decide +kernel
theorem dX9_one_4 : decode cX9_one 4 = .ok (.ifCond .lt 5, 3) := by decide +kernel
theorem dX9_one_7 : decode cX9_one 7 = .ok (.iconst 0, 1) := by decide +kernel
theorem dX9_one_8 : decode cX9_one 8 = .ok (.ireturn, 1) := by decide +kernel
theorem dX9_one_9 : decode cX9_one 9 = .ok (.aload_n 0, 1) := by decide +kernel
theorem dX9_one_10 : decode cX9_one 10 = .ok (.invokevirtual 159, 3) := by decide +kernel
theorem dX9_one_13 : decode cX9_one 13 = .ok (.istore_n 1, 1) := by decide +kernel
theorem dX9_one_14 : decode cX9_one 14 = .ok (.iload_n 1, 1) := by decide +kernel
theorem dX9_one_15 : decode cX9_one 15 = .ok (.bipush 33, 2) := by decide +kernel
theorem dX9_one_17 : decode cX9_one 17 = .ok (.if_icmp .eq 15, 3) := by decide +kernel
theorem dX9_one_20 : decode cX9_one 20 = .ok (.iload_n 1, 1) := by decide +kernel
theorem dX9_one_21 : decode cX9_one 21 = .ok (.bipush 45, 2) := by decide +kernel
theorem dX9_one_23 : decode cX9_one 23 = .ok (.if_icmp .eq 9, 3) := by decide +kernel
theorem dX9_one_26 : decode cX9_one 26 = .ok (.iload_n 1, 1) := by decide +kernel
theorem dX9_one_27 : decode cX9_one 27 = .ok (.bipush 40, 2) := by decide +kernel
theorem dX9_one_29 : decode cX9_one 29 = .ok (.if_icmp .ne 116, 3) := by decide +kernel
theorem dX9_one_32 : decode cX9_one 32 = .ok (.aload_n 0, 1) := by decide +kernel
theorem dX9_one_33 : decode cX9_one 33 = .ok (.getfield 181, 3) := by decide +kernel
theorem dX9_one_36 : decode cX9_one 36 = .ok (.bipush 6, 2) := by decide +kernel
theorem dX9_one_38 : decode cX9_one 38 = .ok (.if_icmp .ne 8, 3) := by decide +kernel
theorem dX9_one_41 : decode cX9_one 41 = .ok (.aload_n 0, 1) := by decide +kernel
theorem dX9_one_42 : decode cX9_one 42 = .ok (.invokevirtual 184, 3) := by decide +kernel
theorem dX9_one_45 : decode cX9_one 45 = .ok (.ireturn, 1) := by decide +kernel
theorem dX9_one_46 : decode cX9_one 46 = .ok (.aload_n 0, 1) := by decide +kernel
theorem dX9_one_47 : decode cX9_one 47 = .ok (.dup, 1) := by decide +kernel
theorem dX9_one_48 : decode cX9_one 48 = .ok (.getfield 181, 3) := by decide +kernel
theorem dX9_one_51 : decode cX9_one 51 = .ok (.iconst 1, 1) := by decide +kernel
theorem dX9_one_52 : decode cX9_one 52 = .ok (.iadd, 1) := by decide +kernel
theorem dX9_one_53 : decode cX9_one 53 = .ok (.putfield 181, 3) := by decide +kernel
theorem dX9_one_56 : decode cX9_one 56 = .ok (.aload_n 0, 1) := by decide +kernel
theorem dX9_one_57 : decode cX9_one 57 = .ok (.dup, 1) := by decide +kernel
theorem dX9_one_58 : decode cX9_one 58 = .ok (.getfield 147, 3) := by decide +kernel
theorem dX9_one_61 : decode cX9_one 61 = .ok (.iconst 1, 1) := by decide +kernel
theorem dX9_one_62 : decode cX9_one 62 = .ok (.iadd, 1) := by decide +kernel
theorem dX9_one_63 : decode cX9_one 63 = .ok (.putfield 147, 3) := by decide +kernel
theorem dX9_one_66 : decode cX9_one 66 = .ok (.iload_n 1, 1) := by decide +kernel
theorem dX9_one_67 : decode cX9_one 67 = .ok (.bipush 40, 2) := by decide +kernel
theorem dX9_one_69 : decode cX9_one 69 = .ok (.if_icmp .ne 10, 3) := by decide +kernel
theorem dX9_one_72 : decode cX9_one 72 = .ok (.aload_n 0, 1) := by decide +kernel
theorem dX9_one_73 : decode cX9_one 73 = .ok (.invokevirtual 187, 3) := by decide +kernel
theorem dX9_one_76 : decode cX9_one 76 = .ok (.goto 7, 3) := by decide +kernel
theorem dX9_one_79 : decode cX9_one 79 = .ok (.aload_n 0, 1) := by decide +kernel
theorem dX9_one_80 : decode cX9_one 80 = .ok (.invokevirtual 178, 3) := by decide +kernel
theorem dX9_one_83 : decode cX9_one 83 = .ok (.istore_n 2, 1) := by decide +kernel
theorem dX9_one_84 : decode cX9_one 84 = .ok (.iload_n 1, 1) := by decide +kernel
theorem dX9_one_85 : decode cX9_one 85 = .ok (.bipush 40, 2) := by decide +kernel
theorem dX9_one_87 : decode cX9_one 87 = .ok (.if_icmp .ne 17, 3) := by decide +kernel
theorem dX9_one_90 : decode cX9_one 90 = .ok (.aload_n 0, 1) := by decide +kernel
theorem dX9_one_91 : decode cX9_one 91 = .ok (.bipush 41, 2) := by decide +kernel
theorem dX9_one_93 : decode cX9_one 93 = .ok (.invokevirtual 166, 3) := by decide +kernel
theorem dX9_one_96 : decode cX9_one 96 = .ok (.ifCond .ne 8, 3) := by decide +kernel
theorem dX9_one_99 : decode cX9_one 99 = .ok (.aload_n 0, 1) := by decide +kernel
theorem dX9_one_100 : decode cX9_one 100 = .ok (.invokevirtual 184, 3) := by decide +kernel
theorem dX9_one_103 : decode cX9_one 103 = .ok (.ireturn, 1) := by decide +kernel
theorem dX9_one_104 : decode cX9_one 104 = .ok (.aload_n 0, 1) := by decide +kernel
theorem dX9_one_105 : decode cX9_one 105 = .ok (.dup, 1) := by decide +kernel
theorem dX9_one_106 : decode cX9_one 106 = .ok (.getfield 181, 3) := by decide +kernel
theorem dX9_one_109 : decode cX9_one 109 = .ok (.iconst 1, 1) := by decide +kernel
theorem dX9_one_110 : decode cX9_one 110 = .ok (.isub, 1) := by decide +kernel
theorem dX9_one_111 : decode cX9_one 111 = .ok (.putfield 181, 3) := by decide +kernel
theorem dX9_one_114 : decode cX9_one 114 = .ok (.iload_n 1, 1) := by decide +kernel
theorem dX9_one_115 : decode cX9_one 115 = .ok (.bipush 40, 2) := by decide +kernel
theorem dX9_one_117 : decode cX9_one 117 = .ok (.if_icmp .ne 7, 3) := by decide +kernel
theorem dX9_one_120 : decode cX9_one 120 = .ok (.iload_n 2, 1) := by decide +kernel
theorem dX9_one_121 : decode cX9_one 121 = .ok (.goto 23, 3) := by decide +kernel
theorem dX9_one_124 : decode cX9_one 124 = .ok (.iload_n 1, 1) := by decide +kernel
theorem dX9_one_125 : decode cX9_one 125 = .ok (.bipush 45, 2) := by decide +kernel
theorem dX9_one_127 : decode cX9_one 127 = .ok (.if_icmp .ne 8, 3) := by decide +kernel
theorem dX9_one_130 : decode cX9_one 130 = .ok (.iload_n 2, 1) := by decide +kernel
theorem dX9_one_131 : decode cX9_one 131 = .ok (.ineg, 1) := by decide +kernel
theorem dX9_one_132 : decode cX9_one 132 = .ok (.goto 12, 3) := by decide +kernel
theorem dX9_one_135 : decode cX9_one 135 = .ok (.iload_n 2, 1) := by decide +kernel
theorem dX9_one_136 : decode cX9_one 136 = .ok (.ifCond .ne 7, 3) := by decide +kernel
theorem dX9_one_139 : decode cX9_one 139 = .ok (.iconst 1, 1) := by decide +kernel
theorem dX9_one_140 : decode cX9_one 140 = .ok (.goto 4, 3) := by decide +kernel
theorem dX9_one_143 : decode cX9_one 143 = .ok (.iconst 0, 1) := by decide +kernel
theorem dX9_one_144 : decode cX9_one 144 = .ok (.ireturn, 1) := by decide +kernel
theorem dX9_one_145 : decode cX9_one 145 = .ok (.iload_n 1, 1) := by decide +kernel
theorem dX9_one_146 : decode cX9_one 146 = .ok (.invokestatic 190, 3) := by decide +kernel
theorem dX9_one_149 : decode cX9_one 149 = .ok (.istore_n 2, 1) := by decide +kernel
theorem dX9_one_150 : decode cX9_one 150 = .ok (.iload_n 2, 1) := by decide +kernel
theorem dX9_one_151 : decode cX9_one 151 = .ok (.ifCond .lt 20, 3) := by decide +kernel
theorem dX9_one_154 : decode cX9_one 154 = .ok (.aload_n 0, 1) := by decide +kernel
theorem dX9_one_155 : decode cX9_one 155 = .ok (.dup, 1) := by decide +kernel
theorem dX9_one_156 : decode cX9_one 156 = .ok (.getfield 147, 3) := by decide +kernel
theorem dX9_one_159 : decode cX9_one 159 = .ok (.iconst 1, 1) := by decide +kernel
theorem dX9_one_160 : decode cX9_one 160 = .ok (.iadd, 1) := by decide +kernel
theorem dX9_one_161 : decode cX9_one 161 = .ok (.putfield 147, 3) := by decide +kernel
theorem dX9_one_164 : decode cX9_one 164 = .ok (.aload_n 0, 1) := by decide +kernel
theorem dX9_one_165 : decode cX9_one 165 = .ok (.getfield 40, 3) := by decide +kernel
theorem dX9_one_168 : decode cX9_one 168 = .ok (.iload_n 2, 1) := by decide +kernel
theorem dX9_one_169 : decode cX9_one 169 = .ok (.iaload, 1) := by decide +kernel
theorem dX9_one_170 : decode cX9_one 170 = .ok (.ireturn, 1) := by decide +kernel
theorem dX9_one_171 : decode cX9_one 171 = .ok (.iconst 0, 1) := by decide +kernel
theorem dX9_one_172 : decode cX9_one 172 = .ok (.istore_n 3, 1) := by decide +kernel
theorem dX9_one_173 : decode cX9_one 173 = .ok (.iconst 0, 1) := by decide +kernel
theorem dX9_one_174 : decode cX9_one 174 = .ok (.istore 4, 2) := by decide +kernel
theorem dX9_one_176 : decode cX9_one 176 = .ok (.iload 4, 2) := by decide +kernel
theorem dX9_one_178 : decode cX9_one 178 = .ok (.iconst 4, 1) := by decide +kernel
theorem dX9_one_179 : decode cX9_one 179 = .ok (.if_icmp .ge 50, 3) := by decide +kernel
theorem dX9_one_182 : decode cX9_one 182 = .ok (.aload_n 0, 1) := by decide +kernel
theorem dX9_one_183 : decode cX9_one 183 = .ok (.invokevirtual 159, 3) := by decide +kernel
theorem dX9_one_186 : decode cX9_one 186 = .ok (.bipush 48, 2) := by decide +kernel
theorem dX9_one_188 : decode cX9_one 188 = .ok (.if_icmp .lt 41, 3) := by decide +kernel
theorem dX9_one_191 : decode cX9_one 191 = .ok (.aload_n 0, 1) := by decide +kernel
theorem dX9_one_192 : decode cX9_one 192 = .ok (.invokevirtual 159, 3) := by decide +kernel
theorem dX9_one_195 : decode cX9_one 195 = .ok (.bipush 57, 2) := by decide +kernel
theorem dX9_one_197 : decode cX9_one 197 = .ok (.if_icmp .gt 32, 3) := by decide +kernel
theorem dX9_one_200 : decode cX9_one 200 = .ok (.bipush 10, 2) := by decide +kernel
theorem dX9_one_202 : decode cX9_one 202 = .ok (.iload_n 3, 1) := by decide +kernel
theorem dX9_one_203 : decode cX9_one 203 = .ok (.imul, 1) := by decide +kernel
theorem dX9_one_204 : decode cX9_one 204 = .ok (.aload_n 0, 1) := by decide +kernel
theorem dX9_one_205 : decode cX9_one 205 = .ok (.invokevirtual 159, 3) := by decide +kernel
theorem dX9_one_208 : decode cX9_one 208 = .ok (.iadd, 1) := by decide +kernel
theorem dX9_one_209 : decode cX9_one 209 = .ok (.bipush 48, 2) := by decide +kernel
theorem dX9_one_211 : decode cX9_one 211 = .ok (.isub, 1) := by decide +kernel
theorem dX9_one_212 : decode cX9_one 212 = .ok (.istore_n 3, 1) := by decide +kernel
theorem dX9_one_213 : decode cX9_one 213 = .ok (.iinc 4 1, 3) := by decide +kernel
theorem dX9_one_216 : decode cX9_one 216 = .ok (.aload_n 0, 1) := by decide +kernel
theorem dX9_one_217 : decode cX9_one 217 = .ok (.dup, 1) := by decide +kernel
theorem dX9_one_218 : decode cX9_one 218 = .ok (.getfield 147, 3) := by decide +kernel
theorem dX9_one_221 : decode cX9_one 221 = .ok (.iconst 1, 1) := by decide +kernel
theorem dX9_one_222 : decode cX9_one 222 = .ok (.iadd, 1) := by decide +kernel
theorem dX9_one_223 : decode cX9_one 223 = .ok (.putfield 147, 3) := by decide +kernel
theorem dX9_one_226 : decode cX9_one 226 = .ok (.goto (-50), 3) := by decide +kernel
theorem dX9_one_229 : decode cX9_one 229 = .ok (.iload 4, 2) := by decide +kernel
theorem dX9_one_231 : decode cX9_one 231 = .ok (.ifCond .ne 10, 3) := by decide +kernel
theorem dX9_one_234 : decode cX9_one 234 = .ok (.aload_n 0, 1) := by decide +kernel
theorem dX9_one_235 : decode cX9_one 235 = .ok (.invokevirtual 184, 3) := by decide +kernel
theorem dX9_one_238 : decode cX9_one 238 = .ok (.goto 4, 3) := by decide +kernel
theorem dX9_one_241 : decode cX9_one 241 = .ok (.iload_n 3, 1) := by decide +kernel
theorem dX9_one_242 : decode cX9_one 242 = .ok (.ireturn, 1) := by decide +kernel
theorem dX9_workOut_0 : decode cX9_workOut 0 = .ok (.aload_n 0, 1) := by decide +kernel
theorem dX9_workOut_1 : decode cX9_workOut 1 = .ok (.iload_n 1, 1) := by decide +kernel
theorem dX9_workOut_2 : decode cX9_workOut 2 = .ok (.putfield 153, 3) := by decide +kernel
theorem dX9_workOut_5 : decode cX9_workOut 5 = .ok (.aload_n 0, 1) := by decide +kernel
theorem dX9_workOut_6 : decode cX9_workOut 6 = .ok (.iconst 0, 1) := by decide +kernel
theorem dX9_workOut_7 : decode cX9_workOut 7 = .ok (.putfield 147, 3) := by decide +kernel
theorem dX9_workOut_10 : decode cX9_workOut 10 = .ok (.aload_n 0, 1) := by decide +kernel
theorem dX9_workOut_11 : decode cX9_workOut 11 = .ok (.iload_n 2, 1) := by decide +kernel
theorem dX9_workOut_12 : decode cX9_workOut 12 = .ok (.putfield 150, 3) := by decide +kernel
theorem dX9_workOut_15 : decode cX9_workOut 15 = .ok (.aload_n 0, 1) := by decide +kernel
theorem dX9_workOut_16 : decode cX9_workOut 16 = .ok (.iconst (-1), 1) := by decide +kernel
theorem dX9_workOut_17 : decode cX9_workOut 17 = .ok (.putfield 156, 3) := by decide +kernel
theorem dX9_workOut_20 : decode cX9_workOut 20 = .ok (.aload_n 0, 1) := by decide +kernel
theorem dX9_workOut_21 : decode cX9_workOut 21 = .ok (.iconst 0, 1) := by decide +kernel
theorem dX9_workOut_22 : decode cX9_workOut 22 = .ok (.putfield 181, 3) := by decide +kernel
theorem dX9_workOut_25 : decode cX9_workOut 25 = .ok (.iconst 0, 1) := by decide +kernel
theorem dX9_workOut_26 : decode cX9_workOut 26 = .ok (.istore_n 3, 1) := by decide +kernel
theorem dX9_workOut_27 : decode cX9_workOut 27 = .ok (.iconst 0, 1) := by decide +kernel
theorem dX9_workOut_28 : decode cX9_workOut 28 = .ok (.istore 4, 2) := by decide +kernel
theorem dX9_workOut_30 : decode cX9_workOut 30 = .ok (.iconst 1, 1) := by decide +kernel
theorem dX9_workOut_31 : decode cX9_workOut 31 = .ok (.istore 5, 2) := by decide +kernel
theorem dX9_workOut_33 : decode cX9_workOut 33 = .ok (.iload 5, 2) := by decide +kernel
theorem dX9_workOut_35 : decode cX9_workOut 35 = .ok (.ifCond .eq 72, 3) := by decide +kernel
theorem dX9_workOut_38 : decode cX9_workOut 38 = .ok (.aload_n 0, 1) := by decide +kernel
theorem dX9_workOut_39 : decode cX9_workOut 39 = .ok (.invokevirtual 187, 3) := by decide +kernel
theorem dX9_workOut_42 : decode cX9_workOut 42 = .ok (.istore 6, 2) := by decide +kernel
theorem dX9_workOut_44 : decode cX9_workOut 44 = .ok (.iconst 1, 1) := by decide +kernel
theorem dX9_workOut_45 : decode cX9_workOut 45 = .ok (.istore 7, 2) := by decide +kernel
theorem dX9_workOut_47 : decode cX9_workOut 47 = .ok (.aload_n 0, 1) := by decide +kernel
theorem dX9_workOut_48 : decode cX9_workOut 48 = .ok (.bipush 63, 2) := by decide +kernel
theorem dX9_workOut_50 : decode cX9_workOut 50 = .ok (.invokevirtual 166, 3) := by decide +kernel
theorem dX9_workOut_53 : decode cX9_workOut 53 = .ok (.ifCond .eq 21, 3) := by decide +kernel
theorem dX9_workOut_56 : decode cX9_workOut 56 = .ok (.iload 6, 2) := by decide +kernel
theorem dX9_workOut_58 : decode cX9_workOut 58 = .ok (.ifCond .eq 7, 3) := by decide +kernel
theorem dX9_workOut_61 : decode cX9_workOut 61 = .ok (.iconst 1, 1) := by decide +kernel
theorem dX9_workOut_62 : decode cX9_workOut 62 = .ok (.goto 4, 3) := by decide +kernel
theorem dX9_workOut_65 : decode cX9_workOut 65 = .ok (.iconst 0, 1) := by decide +kernel
theorem dX9_workOut_66 : decode cX9_workOut 66 = .ok (.istore 7, 2) := by decide +kernel
theorem dX9_workOut_68 : decode cX9_workOut 68 = .ok (.aload_n 0, 1) := by decide +kernel
theorem dX9_workOut_69 : decode cX9_workOut 69 = .ok (.invokevirtual 187, 3) := by decide +kernel
theorem dX9_workOut_72 : decode cX9_workOut 72 = .ok (.istore 6, 2) := by decide +kernel
theorem dX9_workOut_74 : decode cX9_workOut 74 = .ok (.aload_n 0, 1) := by decide +kernel
theorem dX9_workOut_75 : decode cX9_workOut 75 = .ok (.getfield 156, 3) := by decide +kernel
theorem dX9_workOut_78 : decode cX9_workOut 78 = .ok (.ifCond .ge 18, 3) := by decide +kernel
theorem dX9_workOut_81 : decode cX9_workOut 81 = .ok (.iload 7, 2) := by decide +kernel
theorem dX9_workOut_83 : decode cX9_workOut 83 = .ok (.ifCond .eq 13, 3) := by decide +kernel
theorem dX9_workOut_86 : decode cX9_workOut 86 = .ok (.iload_n 3, 1) := by decide +kernel
theorem dX9_workOut_87 : decode cX9_workOut 87 = .ok (.ifCond .ne 9, 3) := by decide +kernel
theorem dX9_workOut_90 : decode cX9_workOut 90 = .ok (.iconst 1, 1) := by decide +kernel
theorem dX9_workOut_91 : decode cX9_workOut 91 = .ok (.istore_n 3, 1) := by decide +kernel
theorem dX9_workOut_92 : decode cX9_workOut 92 = .ok (.iload 6, 2) := by decide +kernel
theorem dX9_workOut_94 : decode cX9_workOut 94 = .ok (.istore 4, 2) := by decide +kernel
theorem dX9_workOut_96 : decode cX9_workOut 96 = .ok (.aload_n 0, 1) := by decide +kernel
theorem dX9_workOut_97 : decode cX9_workOut 97 = .ok (.bipush 59, 2) := by decide +kernel
theorem dX9_workOut_99 : decode cX9_workOut 99 = .ok (.invokevirtual 166, 3) := by decide +kernel
theorem dX9_workOut_102 : decode cX9_workOut 102 = .ok (.istore 5, 2) := by decide +kernel
theorem dX9_workOut_104 : decode cX9_workOut 104 = .ok (.goto (-71), 3) := by decide +kernel
theorem dX9_workOut_107 : decode cX9_workOut 107 = .ok (.aload_n 0, 1) := by decide +kernel
theorem dX9_workOut_108 : decode cX9_workOut 108 = .ok (.getfield 156, 3) := by decide +kernel
theorem dX9_workOut_111 : decode cX9_workOut 111 = .ok (.ifCond .ge 19, 3) := by decide +kernel
theorem dX9_workOut_114 : decode cX9_workOut 114 = .ok (.aload_n 0, 1) := by decide +kernel
theorem dX9_workOut_115 : decode cX9_workOut 115 = .ok (.getfield 147, 3) := by decide +kernel
theorem dX9_workOut_118 : decode cX9_workOut 118 = .ok (.aload_n 0, 1) := by decide +kernel
theorem dX9_workOut_119 : decode cX9_workOut 119 = .ok (.getfield 150, 3) := by decide +kernel
theorem dX9_workOut_122 : decode cX9_workOut 122 = .ok (.if_icmp .ge 8, 3) := by decide +kernel
theorem dX9_workOut_125 : decode cX9_workOut 125 = .ok (.aload_n 0, 1) := by decide +kernel
theorem dX9_workOut_126 : decode cX9_workOut 126 = .ok (.invokevirtual 184, 3) := by decide +kernel
theorem dX9_workOut_129 : decode cX9_workOut 129 = .ok (.ireturn, 1) := by decide +kernel
theorem dX9_workOut_130 : decode cX9_workOut 130 = .ok (.iload 4, 2) := by decide +kernel
theorem dX9_workOut_132 : decode cX9_workOut 132 = .ok (.ireturn, 1) := by decide +kernel
theorem dX9_law_0 : decode cX9_law 0 = .ok (.aload_n 0, 1) := by decide +kernel
theorem dX9_law_1 : decode cX9_law 1 = .ok (.iconst (-1), 1) := by decide +kernel
theorem dX9_law_2 : decode cX9_law 2 = .ok (.aload_n 0, 1) := by decide +kernel
theorem dX9_law_3 : decode cX9_law 3 = .ok (.getfield 144, 3) := by decide +kernel
theorem dX9_law_6 : decode cX9_law 6 = .ok (.invokevirtual 194, 3) := by decide +kernel
theorem dX9_law_9 : decode cX9_law 9 = .ok (.istore_n 1, 1) := by decide +kernel
theorem dX9_law_10 : decode cX9_law 10 = .ok (.aload_n 0, 1) := by decide +kernel
theorem dX9_law_11 : decode cX9_law 11 = .ok (.getfield 144, 3) := by decide +kernel
theorem dX9_law_14 : decode cX9_law 14 = .ok (.istore_n 2, 1) := by decide +kernel
theorem dX9_law_15 : decode cX9_law 15 = .ok (.aload_n 0, 1) := by decide +kernel
theorem dX9_law_16 : decode cX9_law 16 = .ok (.iconst 0, 1) := by decide +kernel
theorem dX9_law_17 : decode cX9_law 17 = .ok (.putfield 144, 3) := by decide +kernel
theorem dX9_law_20 : decode cX9_law 20 = .ok (.aload_n 0, 1) := by decide +kernel
theorem dX9_law_21 : decode cX9_law 21 = .ok (.getfield 156, 3) := by decide +kernel
theorem dX9_law_24 : decode cX9_law 24 = .ok (.ifCond .lt 11, 3) := by decide +kernel
theorem dX9_law_27 : decode cX9_law 27 = .ok (.bipush (-100), 2) := by decide +kernel
theorem dX9_law_29 : decode cX9_law 29 = .ok (.aload_n 0, 1) := by decide +kernel
theorem dX9_law_30 : decode cX9_law 30 = .ok (.getfield 156, 3) := by decide +kernel
theorem dX9_law_33 : decode cX9_law 33 = .ok (.isub, 1) := by decide +kernel
theorem dX9_law_34 : decode cX9_law 34 = .ok (.ireturn, 1) := by decide +kernel
theorem dX9_law_35 : decode cX9_law 35 = .ok (.iconst 0, 1) := by decide +kernel
theorem dX9_law_36 : decode cX9_law 36 = .ok (.istore_n 3, 1) := by decide +kernel
theorem dX9_law_37 : decode cX9_law 37 = .ok (.iload_n 3, 1) := by decide +kernel
theorem dX9_law_38 : decode cX9_law 38 = .ok (.iload_n 2, 1) := by decide +kernel
theorem dX9_law_39 : decode cX9_law 39 = .ok (.if_icmp .ge 21, 3) := by decide +kernel
theorem dX9_law_42 : decode cX9_law 42 = .ok (.aload_n 0, 1) := by decide +kernel
theorem dX9_law_43 : decode cX9_law 43 = .ok (.getfield 37, 3) := by decide +kernel
theorem dX9_law_46 : decode cX9_law 46 = .ok (.iload_n 3, 1) := by decide +kernel
theorem dX9_law_47 : decode cX9_law 47 = .ok (.aload_n 0, 1) := by decide +kernel
theorem dX9_law_48 : decode cX9_law 48 = .ok (.getfield 34, 3) := by decide +kernel
theorem dX9_law_51 : decode cX9_law 51 = .ok (.iload_n 3, 1) := by decide +kernel
theorem dX9_law_52 : decode cX9_law 52 = .ok (.iaload, 1) := by decide +kernel
theorem dX9_law_53 : decode cX9_law 53 = .ok (.iastore, 1) := by decide +kernel
theorem dX9_law_54 : decode cX9_law 54 = .ok (.iinc 3 1, 3) := by decide +kernel
theorem dX9_law_57 : decode cX9_law 57 = .ok (.goto (-20), 3) := by decide +kernel
theorem dX9_law_60 : decode cX9_law 60 = .ok (.aload_n 0, 1) := by decide +kernel
theorem dX9_law_61 : decode cX9_law 61 = .ok (.iload_n 2, 1) := by decide +kernel
theorem dX9_law_62 : decode cX9_law 62 = .ok (.putfield 83, 3) := by decide +kernel
theorem dX9_law_65 : decode cX9_law 65 = .ok (.iconst 1, 1) := by decide +kernel
theorem dX9_law_66 : decode cX9_law 66 = .ok (.ireturn, 1) := by decide +kernel
theorem dX9_hitsOf_0 : decode cX9_hitsOf 0 = .ok (.aload_n 0, 1) := by decide +kernel
theorem dX9_hitsOf_1 : decode cX9_hitsOf 1 = .ok (.getfield 83, 3) := by decide +kernel
theorem dX9_hitsOf_4 : decode cX9_hitsOf 4 = .ok (.ifCond .ge 10, 3) := by decide +kernel
theorem dX9_hitsOf_7 : decode cX9_hitsOf 7 = .ok (.aload_n 0, 1) := by decide +kernel
theorem dX9_hitsOf_8 : decode cX9_hitsOf 8 = .ok (.getfield 9, 3) := by decide +kernel
theorem dX9_hitsOf_11 : decode cX9_hitsOf 11 = .ok (.iload_n 1, 1) := by decide +kernel
theorem dX9_hitsOf_12 : decode cX9_hitsOf 12 = .ok (.iaload, 1) := by decide +kernel
theorem dX9_hitsOf_13 : decode cX9_hitsOf 13 = .ok (.ireturn, 1) := by decide +kernel
theorem dX9_hitsOf_14 : decode cX9_hitsOf 14 = .ok (.aload_n 0, 1) := by decide +kernel
theorem dX9_hitsOf_15 : decode cX9_hitsOf 15 = .ok (.getfield 40, 3) := by decide +kernel
theorem dX9_hitsOf_18 : decode cX9_hitsOf 18 = .ok (.iconst 0, 1) := by decide +kernel
theorem dX9_hitsOf_19 : decode cX9_hitsOf 19 = .ok (.aload_n 0, 1) := by decide +kernel
theorem dX9_hitsOf_20 : decode cX9_hitsOf 20 = .ok (.getfield 9, 3) := by decide +kernel
theorem dX9_hitsOf_23 : decode cX9_hitsOf 23 = .ok (.iload_n 1, 1) := by decide +kernel
theorem dX9_hitsOf_24 : decode cX9_hitsOf 24 = .ok (.iaload, 1) := by decide +kernel
theorem dX9_hitsOf_25 : decode cX9_hitsOf 25 = .ok (.iastore, 1) := by decide +kernel
theorem dX9_hitsOf_26 : decode cX9_hitsOf 26 = .ok (.aload_n 0, 1) := by decide +kernel
theorem dX9_hitsOf_27 : decode cX9_hitsOf 27 = .ok (.getfield 40, 3) := by decide +kernel
theorem dX9_hitsOf_30 : decode cX9_hitsOf 30 = .ok (.iconst 1, 1) := by decide +kernel
theorem dX9_hitsOf_31 : decode cX9_hitsOf 31 = .ok (.iload_n 1, 1) := by decide +kernel
theorem dX9_hitsOf_32 : decode cX9_hitsOf 32 = .ok (.iastore, 1) := by decide +kernel
theorem dX9_hitsOf_33 : decode cX9_hitsOf 33 = .ok (.aload_n 0, 1) := by decide +kernel
theorem dX9_hitsOf_34 : decode cX9_hitsOf 34 = .ok (.getfield 40, 3) := by decide +kernel
theorem dX9_hitsOf_37 : decode cX9_hitsOf 37 = .ok (.iconst 2, 1) := by decide +kernel
theorem dX9_hitsOf_38 : decode cX9_hitsOf 38 = .ok (.iload_n 2, 1) := by decide +kernel
theorem dX9_hitsOf_39 : decode cX9_hitsOf 39 = .ok (.iastore, 1) := by decide +kernel
theorem dX9_hitsOf_40 : decode cX9_hitsOf 40 = .ok (.aload_n 0, 1) := by decide +kernel
theorem dX9_hitsOf_41 : decode cX9_hitsOf 41 = .ok (.getfield 40, 3) := by decide +kernel
theorem dX9_hitsOf_44 : decode cX9_hitsOf 44 = .ok (.iconst 3, 1) := by decide +kernel
theorem dX9_hitsOf_45 : decode cX9_hitsOf 45 = .ok (.iload_n 3, 1) := by decide +kernel
theorem dX9_hitsOf_46 : decode cX9_hitsOf 46 = .ok (.iastore, 1) := by decide +kernel
theorem dX9_hitsOf_47 : decode cX9_hitsOf 47 = .ok (.aload_n 0, 1) := by decide +kernel
theorem dX9_hitsOf_48 : decode cX9_hitsOf 48 = .ok (.getfield 40, 3) := by decide +kernel
theorem dX9_hitsOf_51 : decode cX9_hitsOf 51 = .ok (.iconst 4, 1) := by decide +kernel
theorem dX9_hitsOf_52 : decode cX9_hitsOf 52 = .ok (.iload 4, 2) := by decide +kernel
theorem dX9_hitsOf_54 : decode cX9_hitsOf 54 = .ok (.iastore, 1) := by decide +kernel
theorem dX9_hitsOf_55 : decode cX9_hitsOf 55 = .ok (.aload_n 0, 1) := by decide +kernel
theorem dX9_hitsOf_56 : decode cX9_hitsOf 56 = .ok (.iconst 0, 1) := by decide +kernel
theorem dX9_hitsOf_57 : decode cX9_hitsOf 57 = .ok (.aload_n 0, 1) := by decide +kernel
theorem dX9_hitsOf_58 : decode cX9_hitsOf 58 = .ok (.getfield 83, 3) := by decide +kernel
theorem dX9_hitsOf_61 : decode cX9_hitsOf 61 = .ok (.invokevirtual 194, 3) := by decide +kernel
theorem dX9_hitsOf_64 : decode cX9_hitsOf 64 = .ok (.istore 5, 2) := by decide +kernel
theorem dX9_hitsOf_66 : decode cX9_hitsOf 66 = .ok (.iload 5, 2) := by decide +kernel
theorem dX9_hitsOf_68 : decode cX9_hitsOf 68 = .ok (.ifCond .ge 7, 3) := by decide +kernel
theorem dX9_hitsOf_71 : decode cX9_hitsOf 71 = .ok (.iconst 0, 1) := by decide +kernel
theorem dX9_hitsOf_72 : decode cX9_hitsOf 72 = .ok (.goto 17, 3) := by decide +kernel
theorem dX9_hitsOf_75 : decode cX9_hitsOf 75 = .ok (.iload 5, 2) := by decide +kernel
theorem dX9_hitsOf_77 : decode cX9_hitsOf 77 = .ok (.bipush 12, 2) := by decide +kernel
theorem dX9_hitsOf_79 : decode cX9_hitsOf 79 = .ok (.if_icmp .le 8, 3) := by decide +kernel
theorem dX9_hitsOf_82 : decode cX9_hitsOf 82 = .ok (.bipush 12, 2) := by decide +kernel
theorem dX9_hitsOf_84 : decode cX9_hitsOf 84 = .ok (.goto 5, 3) := by decide +kernel
theorem dX9_hitsOf_87 : decode cX9_hitsOf 87 = .ok (.iload 5, 2) := by decide +kernel
theorem dX9_hitsOf_89 : decode cX9_hitsOf 89 = .ok (.ireturn, 1) := by decide +kernel
theorem dX9_stateOf_0 : decode cX9_stateOf 0 = .ok (.iload_n 0, 1) := by decide +kernel
theorem dX9_stateOf_1 : decode cX9_stateOf 1 = .ok (.bipush 16, 2) := by decide +kernel
theorem dX9_stateOf_3 : decode cX9_stateOf 3 = .ok (.imul, 1) := by decide +kernel
theorem dX9_stateOf_4 : decode cX9_stateOf 4 = .ok (.iload_n 1, 1) := by decide +kernel
theorem dX9_stateOf_5 : decode cX9_stateOf 5 = .ok (.iadd, 1) := by decide +kernel
theorem dX9_stateOf_6 : decode cX9_stateOf 6 = .ok (.iconst 4, 1) := by decide +kernel
theorem dX9_stateOf_7 : decode cX9_stateOf 7 = .ok (.imul, 1) := by decide +kernel
theorem dX9_stateOf_8 : decode cX9_stateOf 8 = .ok (.iload_n 2, 1) := by decide +kernel
theorem dX9_stateOf_9 : decode cX9_stateOf 9 = .ok (.iadd, 1) := by decide +kernel
theorem dX9_stateOf_10 : decode cX9_stateOf 10 = .ok (.ireturn, 1) := by decide +kernel
theorem dX9_nextOf_0 : decode cX9_nextOf 0 = .ok (.iconst 1, 1) := by decide +kernel
theorem dX9_nextOf_1 : decode cX9_nextOf 1 = .ok (.istore_n 3, 1) := by decide +kernel
theorem dX9_nextOf_2 : decode cX9_nextOf 2 = .ok (.iload_n 3, 1) := by decide +kernel
theorem dX9_nextOf_3 : decode cX9_nextOf 3 = .ok (.aload_n 0, 1) := by decide +kernel
theorem dX9_nextOf_4 : decode cX9_nextOf 4 = .ok (.getfield 96, 3) := by decide +kernel
theorem dX9_nextOf_7 : decode cX9_nextOf 7 = .ok (.if_icmp .gt 41, 3) := by decide +kernel
theorem dX9_nextOf_10 : decode cX9_nextOf 10 = .ok (.aload_n 0, 1) := by decide +kernel
theorem dX9_nextOf_11 : decode cX9_nextOf 11 = .ok (.getfield 22, 3) := by decide +kernel
theorem dX9_nextOf_14 : decode cX9_nextOf 14 = .ok (.aload_n 0, 1) := by decide +kernel
theorem dX9_nextOf_15 : decode cX9_nextOf 15 = .ok (.getfield 25, 3) := by decide +kernel
theorem dX9_nextOf_18 : decode cX9_nextOf 18 = .ok (.iload_n 1, 1) := by decide +kernel
theorem dX9_nextOf_19 : decode cX9_nextOf 19 = .ok (.iaload, 1) := by decide +kernel
theorem dX9_nextOf_20 : decode cX9_nextOf 20 = .ok (.iload_n 3, 1) := by decide +kernel
theorem dX9_nextOf_21 : decode cX9_nextOf 21 = .ok (.iadd, 1) := by decide +kernel
theorem dX9_nextOf_22 : decode cX9_nextOf 22 = .ok (.aload_n 0, 1) := by decide +kernel
theorem dX9_nextOf_23 : decode cX9_nextOf 23 = .ok (.getfield 96, 3) := by decide +kernel
theorem dX9_nextOf_26 : decode cX9_nextOf 26 = .ok (.irem, 1) := by decide +kernel
theorem dX9_nextOf_27 : decode cX9_nextOf 27 = .ok (.iaload, 1) := by decide +kernel
theorem dX9_nextOf_28 : decode cX9_nextOf 28 = .ok (.istore 4, 2) := by decide +kernel
theorem dX9_nextOf_30 : decode cX9_nextOf 30 = .ok (.iload_n 2, 1) := by decide +kernel
theorem dX9_nextOf_31 : decode cX9_nextOf 31 = .ok (.iload 4, 2) := by decide +kernel
theorem dX9_nextOf_33 : decode cX9_nextOf 33 = .ok (.invokestatic 133, 3) := by decide +kernel
theorem dX9_nextOf_36 : decode cX9_nextOf 36 = .ok (.ifCond .eq 6, 3) := by decide +kernel
theorem dX9_nextOf_39 : decode cX9_nextOf 39 = .ok (.iload 4, 2) := by decide +kernel
theorem dX9_nextOf_41 : decode cX9_nextOf 41 = .ok (.ireturn, 1) := by decide +kernel
theorem dX9_nextOf_42 : decode cX9_nextOf 42 = .ok (.iinc 3 1, 3) := by decide +kernel
theorem dX9_nextOf_45 : decode cX9_nextOf 45 = .ok (.goto (-43), 3) := by decide +kernel
theorem dX9_nextOf_48 : decode cX9_nextOf 48 = .ok (.iload_n 1, 1) := by decide +kernel
theorem dX9_nextOf_49 : decode cX9_nextOf 49 = .ok (.ireturn, 1) := by decide +kernel
theorem dX9_isOver_0 : decode cX9_isOver 0 = .ok (.iload_n 1, 1) := by decide +kernel
theorem dX9_isOver_1 : decode cX9_isOver 1 = .ok (.aload_n 0, 1) := by decide +kernel
theorem dX9_isOver_2 : decode cX9_isOver 2 = .ok (.getfield 87, 3) := by decide +kernel
theorem dX9_isOver_5 : decode cX9_isOver 5 = .ok (.if_icmp .ge 11, 3) := by decide +kernel
theorem dX9_isOver_8 : decode cX9_isOver 8 = .ok (.iload_n 2, 1) := by decide +kernel
theorem dX9_isOver_9 : decode cX9_isOver 9 = .ok (.invokestatic 197, 3) := by decide +kernel
theorem dX9_isOver_12 : decode cX9_isOver 12 = .ok (.iconst 2, 1) := by decide +kernel
theorem dX9_isOver_13 : decode cX9_isOver 13 = .ok (.if_icmp .ge 7, 3) := by decide +kernel
theorem dX9_isOver_16 : decode cX9_isOver 16 = .ok (.iconst 1, 1) := by decide +kernel
theorem dX9_isOver_17 : decode cX9_isOver 17 = .ok (.goto 4, 3) := by decide +kernel
theorem dX9_isOver_20 : decode cX9_isOver 20 = .ok (.iconst 0, 1) := by decide +kernel
theorem dX9_isOver_21 : decode cX9_isOver 21 = .ok (.ireturn, 1) := by decide +kernel
theorem dX9_byHits_0 : decode cX9_byHits 0 = .ok (.bipush 9, 2) := by decide +kernel
theorem dX9_byHits_2 : decode cX9_byHits 2 = .ok (.istore 4, 2) := by decide +kernel
theorem dX9_byHits_4 : decode cX9_byHits 4 = .ok (.iconst 0, 1) := by decide +kernel
theorem dX9_byHits_5 : decode cX9_byHits 5 = .ok (.istore 5, 2) := by decide +kernel
theorem dX9_byHits_7 : decode cX9_byHits 7 = .ok (.iload 5, 2) := by decide +kernel
theorem dX9_byHits_9 : decode cX9_byHits 9 = .ok (.aload_n 0, 1) := by decide +kernel
theorem dX9_byHits_10 : decode cX9_byHits 10 = .ok (.getfield 96, 3) := by decide +kernel
theorem dX9_byHits_13 : decode cX9_byHits 13 = .ok (.if_icmp .ge 110, 3) := by decide +kernel
theorem dX9_byHits_16 : decode cX9_byHits 16 = .ok (.iload_n 2, 1) := by decide +kernel
theorem dX9_byHits_17 : decode cX9_byHits 17 = .ok (.iload 5, 2) := by decide +kernel
theorem dX9_byHits_19 : decode cX9_byHits 19 = .ok (.invokestatic 133, 3) := by decide +kernel
theorem dX9_byHits_22 : decode cX9_byHits 22 = .ok (.ifCond .eq 13, 3) := by decide +kernel
theorem dX9_byHits_25 : decode cX9_byHits 25 = .ok (.iload 5, 2) := by decide +kernel
theorem dX9_byHits_27 : decode cX9_byHits 27 = .ok (.iload_n 1, 1) := by decide +kernel
theorem dX9_byHits_28 : decode cX9_byHits 28 = .ok (.if_icmp .eq 7, 3) := by decide +kernel
theorem dX9_byHits_31 : decode cX9_byHits 31 = .ok (.iconst 1, 1) := by decide +kernel
theorem dX9_byHits_32 : decode cX9_byHits 32 = .ok (.goto 4, 3) := by decide +kernel
theorem dX9_byHits_35 : decode cX9_byHits 35 = .ok (.iconst 0, 1) := by decide +kernel
theorem dX9_byHits_36 : decode cX9_byHits 36 = .ok (.istore 6, 2) := by decide +kernel
theorem dX9_byHits_38 : decode cX9_byHits 38 = .ok (.iload 4, 2) := by decide +kernel
theorem dX9_byHits_40 : decode cX9_byHits 40 = .ok (.bipush 9, 2) := by decide +kernel
theorem dX9_byHits_42 : decode cX9_byHits 42 = .ok (.if_icmp .eq 49, 3) := by decide +kernel
theorem dX9_byHits_45 : decode cX9_byHits 45 = .ok (.iload 6, 2) := by decide +kernel
theorem dX9_byHits_47 : decode cX9_byHits 47 = .ok (.ifCond .eq 48, 3) := by decide +kernel
theorem dX9_byHits_50 : decode cX9_byHits 50 = .ok (.iload_n 3, 1) := by decide +kernel
theorem dX9_byHits_51 : decode cX9_byHits 51 = .ok (.ifCond .eq 23, 3) := by decide +kernel
theorem dX9_byHits_54 : decode cX9_byHits 54 = .ok (.aload_n 0, 1) := by decide +kernel
theorem dX9_byHits_55 : decode cX9_byHits 55 = .ok (.getfield 9, 3) := by decide +kernel
theorem dX9_byHits_58 : decode cX9_byHits 58 = .ok (.iload 5, 2) := by decide +kernel
theorem dX9_byHits_60 : decode cX9_byHits 60 = .ok (.iaload, 1) := by decide +kernel
theorem dX9_byHits_61 : decode cX9_byHits 61 = .ok (.aload_n 0, 1) := by decide +kernel
theorem dX9_byHits_62 : decode cX9_byHits 62 = .ok (.getfield 9, 3) := by decide +kernel
theorem dX9_byHits_65 : decode cX9_byHits 65 = .ok (.iload 4, 2) := by decide +kernel
theorem dX9_byHits_67 : decode cX9_byHits 67 = .ok (.iaload, 1) := by decide +kernel
theorem dX9_byHits_68 : decode cX9_byHits 68 = .ok (.if_icmp .le 27, 3) := by decide +kernel
theorem dX9_byHits_71 : decode cX9_byHits 71 = .ok (.goto 20, 3) := by decide +kernel
theorem dX9_byHits_74 : decode cX9_byHits 74 = .ok (.aload_n 0, 1) := by decide +kernel
theorem dX9_byHits_75 : decode cX9_byHits 75 = .ok (.getfield 9, 3) := by decide +kernel
theorem dX9_byHits_78 : decode cX9_byHits 78 = .ok (.iload 5, 2) := by decide +kernel
theorem dX9_byHits_80 : decode cX9_byHits 80 = .ok (.iaload, 1) := by decide +kernel
theorem dX9_byHits_81 : decode cX9_byHits 81 = .ok (.aload_n 0, 1) := by decide +kernel
theorem dX9_byHits_82 : decode cX9_byHits 82 = .ok (.getfield 9, 3) := by decide +kernel
theorem dX9_byHits_85 : decode cX9_byHits 85 = .ok (.iload 4, 2) := by decide +kernel
theorem dX9_byHits_87 : decode cX9_byHits 87 = .ok (.iaload, 1) := by decide +kernel
theorem dX9_byHits_88 : decode cX9_byHits 88 = .ok (.if_icmp .ge 7, 3) := by decide +kernel
theorem dX9_byHits_91 : decode cX9_byHits 91 = .ok (.iconst 1, 1) := by decide +kernel
theorem dX9_byHits_92 : decode cX9_byHits 92 = .ok (.goto 4, 3) := by decide +kernel
theorem dX9_byHits_95 : decode cX9_byHits 95 = .ok (.iconst 0, 1) := by decide +kernel
theorem dX9_byHits_96 : decode cX9_byHits 96 = .ok (.istore 7, 2) := by decide +kernel
theorem dX9_byHits_98 : decode cX9_byHits 98 = .ok (.iload 6, 2) := by decide +kernel
theorem dX9_byHits_100 : decode cX9_byHits 100 = .ok (.ifCond .eq 13, 3) := by decide +kernel
theorem dX9_byHits_103 : decode cX9_byHits 103 = .ok (.iload 7, 2) := by decide +kernel
theorem dX9_byHits_105 : decode cX9_byHits 105 = .ok (.ifCond .eq 8, 3) := by decide +kernel
theorem dX9_byHits_108 : decode cX9_byHits 108 = .ok (.iload 5, 2) := by decide +kernel
theorem dX9_byHits_110 : decode cX9_byHits 110 = .ok (.goto 5, 3) := by decide +kernel
theorem dX9_byHits_113 : decode cX9_byHits 113 = .ok (.iload 4, 2) := by decide +kernel
theorem dX9_byHits_115 : decode cX9_byHits 115 = .ok (.istore 4, 2) := by decide +kernel
theorem dX9_byHits_117 : decode cX9_byHits 117 = .ok (.iinc 5 1, 3) := by decide +kernel
theorem dX9_byHits_120 : decode cX9_byHits 120 = .ok (.goto (-113), 3) := by decide +kernel
theorem dX9_byHits_123 : decode cX9_byHits 123 = .ok (.iload 4, 2) := by decide +kernel
theorem dX9_byHits_125 : decode cX9_byHits 125 = .ok (.ireturn, 1) := by decide +kernel
theorem dX9_plainAim_0 : decode cX9_plainAim 0 = .ok (.aload_n 0, 1) := by decide +kernel
theorem dX9_plainAim_1 : decode cX9_plainAim 1 = .ok (.getfield 9, 3) := by decide +kernel
theorem dX9_plainAim_4 : decode cX9_plainAim 4 = .ok (.iconst 4, 1) := by decide +kernel
theorem dX9_plainAim_5 : decode cX9_plainAim 5 = .ok (.iload_n 1, 1) := by decide +kernel
theorem dX9_plainAim_6 : decode cX9_plainAim 6 = .ok (.iadd, 1) := by decide +kernel
theorem dX9_plainAim_7 : decode cX9_plainAim 7 = .ok (.iaload, 1) := by decide +kernel
theorem dX9_plainAim_8 : decode cX9_plainAim 8 = .ok (.tableswitch 97 0 4 #[36, 44, 97, 52, 59], 36) := by decide +kernel
theorem dX9_plainAim_44 : decode cX9_plainAim 44 = .ok (.aload_n 0, 1) := by decide +kernel
theorem dX9_plainAim_45 : decode cX9_plainAim 45 = .ok (.iload_n 1, 1) := by decide +kernel
theorem dX9_plainAim_46 : decode cX9_plainAim 46 = .ok (.iload_n 2, 1) := by decide +kernel
theorem dX9_plainAim_47 : decode cX9_plainAim 47 = .ok (.iconst 1, 1) := by decide +kernel
theorem dX9_plainAim_48 : decode cX9_plainAim 48 = .ok (.invokevirtual 200, 3) := by decide +kernel
theorem dX9_plainAim_51 : decode cX9_plainAim 51 = .ok (.ireturn, 1) := by decide +kernel
theorem dX9_plainAim_52 : decode cX9_plainAim 52 = .ok (.aload_n 0, 1) := by decide +kernel
theorem dX9_plainAim_53 : decode cX9_plainAim 53 = .ok (.iload_n 1, 1) := by decide +kernel
theorem dX9_plainAim_54 : decode cX9_plainAim 54 = .ok (.iload_n 2, 1) := by decide +kernel
theorem dX9_plainAim_55 : decode cX9_plainAim 55 = .ok (.iconst 0, 1) := by decide +kernel
theorem dX9_plainAim_56 : decode cX9_plainAim 56 = .ok (.invokevirtual 200, 3) := by decide +kernel
theorem dX9_plainAim_59 : decode cX9_plainAim 59 = .ok (.ireturn, 1) := by decide +kernel
theorem dX9_plainAim_60 : decode cX9_plainAim 60 = .ok (.aload_n 0, 1) := by decide +kernel
theorem dX9_plainAim_61 : decode cX9_plainAim 61 = .ok (.iload_n 1, 1) := by decide +kernel
theorem dX9_plainAim_62 : decode cX9_plainAim 62 = .ok (.iload_n 2, 1) := by decide +kernel
theorem dX9_plainAim_63 : decode cX9_plainAim 63 = .ok (.invokevirtual 204, 3) := by decide +kernel
theorem dX9_plainAim_66 : decode cX9_plainAim 66 = .ok (.ireturn, 1) := by decide +kernel
theorem dX9_plainAim_67 : decode cX9_plainAim 67 = .ok (.aload_n 0, 1) := by decide +kernel
theorem dX9_plainAim_68 : decode cX9_plainAim 68 = .ok (.getfield 9, 3) := by decide +kernel
theorem dX9_plainAim_71 : decode cX9_plainAim 71 = .ok (.bipush 8, 2) := by decide +kernel
theorem dX9_plainAim_73 : decode cX9_plainAim 73 = .ok (.iload_n 1, 1) := by decide +kernel
theorem dX9_plainAim_74 : decode cX9_plainAim 74 = .ok (.iadd, 1) := by decide +kernel
theorem dX9_plainAim_75 : decode cX9_plainAim 75 = .ok (.iaload, 1) := by decide +kernel
theorem dX9_plainAim_76 : decode cX9_plainAim 76 = .ok (.istore_n 3, 1) := by decide +kernel
theorem dX9_plainAim_77 : decode cX9_plainAim 77 = .ok (.iload_n 3, 1) := by decide +kernel
theorem dX9_plainAim_78 : decode cX9_plainAim 78 = .ok (.aload_n 0, 1) := by decide +kernel
theorem dX9_plainAim_79 : decode cX9_plainAim 79 = .ok (.getfield 96, 3) := by decide +kernel
theorem dX9_plainAim_82 : decode cX9_plainAim 82 = .ok (.if_icmp .ge 20, 3) := by decide +kernel
theorem dX9_plainAim_85 : decode cX9_plainAim 85 = .ok (.iload_n 3, 1) := by decide +kernel
theorem dX9_plainAim_86 : decode cX9_plainAim 86 = .ok (.iload_n 1, 1) := by decide +kernel
theorem dX9_plainAim_87 : decode cX9_plainAim 87 = .ok (.if_icmp .eq 15, 3) := by decide +kernel
theorem dX9_plainAim_90 : decode cX9_plainAim 90 = .ok (.iload_n 2, 1) := by decide +kernel
theorem dX9_plainAim_91 : decode cX9_plainAim 91 = .ok (.iload_n 3, 1) := by decide +kernel
theorem dX9_plainAim_92 : decode cX9_plainAim 92 = .ok (.invokestatic 133, 3) := by decide +kernel
theorem dX9_plainAim_95 : decode cX9_plainAim 95 = .ok (.ifCond .eq 7, 3) := by decide +kernel
theorem dX9_plainAim_98 : decode cX9_plainAim 98 = .ok (.iload_n 3, 1) := by decide +kernel
theorem dX9_plainAim_99 : decode cX9_plainAim 99 = .ok (.goto 5, 3) := by decide +kernel
theorem dX9_plainAim_102 : decode cX9_plainAim 102 = .ok (.bipush 9, 2) := by decide +kernel
theorem dX9_plainAim_104 : decode cX9_plainAim 104 = .ok (.ireturn, 1) := by decide +kernel
theorem dX9_plainAim_105 : decode cX9_plainAim 105 = .ok (.bipush 9, 2) := by decide +kernel
theorem dX9_plainAim_107 : decode cX9_plainAim 107 = .ok (.ireturn, 1) := by decide +kernel
theorem dX9_worthBy_0 : decode cX9_worthBy 0 = .ok (.iconst 4, 1) := by decide +kernel
theorem dX9_worthBy_1 : decode cX9_worthBy 1 = .ok (.iload_n 1, 1) := by decide +kernel
theorem dX9_worthBy_2 : decode cX9_worthBy 2 = .ok (.iconst 1, 1) := by decide +kernel
theorem dX9_worthBy_3 : decode cX9_worthBy 3 = .ok (.iadd, 1) := by decide +kernel
theorem dX9_worthBy_4 : decode cX9_worthBy 4 = .ok (.iload_n 2, 1) := by decide +kernel
theorem dX9_worthBy_5 : decode cX9_worthBy 5 = .ok (.aload_n 0, 1) := by decide +kernel
theorem dX9_worthBy_6 : decode cX9_worthBy 6 = .ok (.iload_n 3, 1) := by decide +kernel
theorem dX9_worthBy_7 : decode cX9_worthBy 7 = .ok (.iload_n 2, 1) := by decide +kernel
theorem dX9_worthBy_8 : decode cX9_worthBy 8 = .ok (.invokevirtual 204, 3) := by decide +kernel
theorem dX9_worthBy_11 : decode cX9_worthBy 11 = .ok (.invokestatic 207, 3) := by decide +kernel
theorem dX9_worthBy_14 : decode cX9_worthBy 14 = .ok (.imul, 1) := by decide +kernel
theorem dX9_worthBy_15 : decode cX9_worthBy 15 = .ok (.istore 6, 2) := by decide +kernel
theorem dX9_worthBy_17 : decode cX9_worthBy 17 = .ok (.iload 4, 2) := by decide +kernel
theorem dX9_worthBy_19 : decode cX9_worthBy 19 = .ok (.bipush 9, 2) := by decide +kernel
theorem dX9_worthBy_21 : decode cX9_worthBy 21 = .ok (.if_icmp .ne 7, 3) := by decide +kernel
theorem dX9_worthBy_24 : decode cX9_worthBy 24 = .ok (.iload_n 2, 1) := by decide +kernel
theorem dX9_worthBy_25 : decode cX9_worthBy 25 = .ok (.goto 11, 3) := by decide +kernel
theorem dX9_worthBy_28 : decode cX9_worthBy 28 = .ok (.iload_n 2, 1) := by decide +kernel
theorem dX9_worthBy_29 : decode cX9_worthBy 29 = .ok (.iconst 1, 1) := by decide +kernel
theorem dX9_worthBy_30 : decode cX9_worthBy 30 = .ok (.iload 4, 2) := by decide +kernel
theorem dX9_worthBy_32 : decode cX9_worthBy 32 = .ok (.ishl, 1) := by decide +kernel
theorem dX9_worthBy_33 : decode cX9_worthBy 33 = .ok (.iconst (-1), 1) := by decide +kernel
theorem dX9_worthBy_34 : decode cX9_worthBy 34 = .ok (.ixor, 1) := by decide +kernel
theorem dX9_worthBy_35 : decode cX9_worthBy 35 = .ok (.iand, 1) := by decide +kernel
theorem dX9_worthBy_36 : decode cX9_worthBy 36 = .ok (.istore 7, 2) := by decide +kernel
theorem dX9_worthBy_38 : decode cX9_worthBy 38 = .ok (.iconst 4, 1) := by decide +kernel
theorem dX9_worthBy_39 : decode cX9_worthBy 39 = .ok (.iload_n 1, 1) := by decide +kernel
theorem dX9_worthBy_40 : decode cX9_worthBy 40 = .ok (.iconst 1, 1) := by decide +kernel
theorem dX9_worthBy_41 : decode cX9_worthBy 41 = .ok (.iadd, 1) := by decide +kernel
theorem dX9_worthBy_42 : decode cX9_worthBy 42 = .ok (.iload 7, 2) := by decide +kernel
theorem dX9_worthBy_44 : decode cX9_worthBy 44 = .ok (.aload_n 0, 1) := by decide +kernel
theorem dX9_worthBy_45 : decode cX9_worthBy 45 = .ok (.iload_n 3, 1) := by decide +kernel
theorem dX9_worthBy_46 : decode cX9_worthBy 46 = .ok (.iload 7, 2) := by decide +kernel
theorem dX9_worthBy_48 : decode cX9_worthBy 48 = .ok (.invokevirtual 204, 3) := by decide +kernel
theorem dX9_worthBy_51 : decode cX9_worthBy 51 = .ok (.invokestatic 207, 3) := by decide +kernel
theorem dX9_worthBy_54 : decode cX9_worthBy 54 = .ok (.imul, 1) := by decide +kernel
theorem dX9_worthBy_55 : decode cX9_worthBy 55 = .ok (.istore 8, 2) := by decide +kernel
theorem dX9_worthBy_57 : decode cX9_worthBy 57 = .ok (.iconst 0, 1) := by decide +kernel
theorem dX9_worthBy_58 : decode cX9_worthBy 58 = .ok (.istore 9, 2) := by decide +kernel
theorem dX9_worthBy_60 : decode cX9_worthBy 60 = .ok (.iload 9, 2) := by decide +kernel
theorem dX9_worthBy_62 : decode cX9_worthBy 62 = .ok (.aload_n 0, 1) := by decide +kernel
theorem dX9_worthBy_63 : decode cX9_worthBy 63 = .ok (.getfield 96, 3) := by decide +kernel
theorem dX9_worthBy_66 : decode cX9_worthBy 66 = .ok (.if_icmp .ge 48, 3) := by decide +kernel
theorem dX9_worthBy_69 : decode cX9_worthBy 69 = .ok (.aload_n 0, 1) := by decide +kernel
theorem dX9_worthBy_70 : decode cX9_worthBy 70 = .ok (.getfield 56, 3) := by decide +kernel
theorem dX9_worthBy_73 : decode cX9_worthBy 73 = .ok (.iload 9, 2) := by decide +kernel
theorem dX9_worthBy_75 : decode cX9_worthBy 75 = .ok (.iload 5, 2) := by decide +kernel
theorem dX9_worthBy_77 : decode cX9_worthBy 77 = .ok (.i2l, 1) := by decide +kernel
theorem dX9_worthBy_78 : decode cX9_worthBy 78 = .ok (.aload_n 0, 1) := by decide +kernel
theorem dX9_worthBy_79 : decode cX9_worthBy 79 = .ok (.getfield 47, 3) := by decide +kernel
theorem dX9_worthBy_82 : decode cX9_worthBy 82 = .ok (.iload 8, 2) := by decide +kernel
theorem dX9_worthBy_84 : decode cX9_worthBy 84 = .ok (.iload 9, 2) := by decide +kernel
theorem dX9_worthBy_86 : decode cX9_worthBy 86 = .ok (.iadd, 1) := by decide +kernel
theorem dX9_worthBy_87 : decode cX9_worthBy 87 = .ok (.laload, 1) := by decide +kernel
theorem dX9_worthBy_88 : decode cX9_worthBy 88 = .ok (.lmul, 1) := by decide +kernel
theorem dX9_worthBy_89 : decode cX9_worthBy 89 = .ok (.bipush 12, 2) := by decide +kernel
theorem dX9_worthBy_91 : decode cX9_worthBy 91 = .ok (.iload 5, 2) := by decide +kernel
theorem dX9_worthBy_93 : decode cX9_worthBy 93 = .ok (.isub, 1) := by decide +kernel
theorem dX9_worthBy_94 : decode cX9_worthBy 94 = .ok (.i2l, 1) := by decide +kernel
theorem dX9_worthBy_95 : decode cX9_worthBy 95 = .ok (.aload_n 0, 1) := by decide +kernel
theorem dX9_worthBy_96 : decode cX9_worthBy 96 = .ok (.getfield 47, 3) := by decide +kernel
theorem dX9_worthBy_99 : decode cX9_worthBy 99 = .ok (.iload 6, 2) := by decide +kernel
theorem dX9_worthBy_101 : decode cX9_worthBy 101 = .ok (.iload 9, 2) := by decide +kernel
theorem dX9_worthBy_103 : decode cX9_worthBy 103 = .ok (.iadd, 1) := by decide +kernel
theorem dX9_worthBy_104 : decode cX9_worthBy 104 = .ok (.laload, 1) := by decide +kernel
theorem dX9_worthBy_105 : decode cX9_worthBy 105 = .ok (.lmul, 1) := by decide +kernel
theorem dX9_worthBy_106 : decode cX9_worthBy 106 = .ok (.ladd, 1) := by decide +kernel
theorem dX9_worthBy_107 : decode cX9_worthBy 107 = .ok (.lastore, 1) := by decide +kernel
theorem dX9_worthBy_108 : decode cX9_worthBy 108 = .ok (.iinc 9 1, 3) := by decide +kernel
theorem dX9_worthBy_111 : decode cX9_worthBy 111 = .ok (.goto (-51), 3) := by decide +kernel
theorem dX9_worthBy_114 : decode cX9_worthBy 114 = .ok (.return_, 1) := by decide +kernel
theorem dX9_hitsAt_0 : decode cX9_hitsAt 0 = .ok (.iload 4, 2) := by decide +kernel
theorem dX9_hitsAt_2 : decode cX9_hitsAt 2 = .ok (.bipush 9, 2) := by decide +kernel
theorem dX9_hitsAt_4 : decode cX9_hitsAt 4 = .ok (.if_icmp .ne 7, 3) := by decide +kernel
theorem dX9_hitsAt_7 : decode cX9_hitsAt 7 = .ok (.iconst 0, 1) := by decide +kernel
theorem dX9_hitsAt_8 : decode cX9_hitsAt 8 = .ok (.goto 15, 3) := by decide +kernel
theorem dX9_hitsAt_11 : decode cX9_hitsAt 11 = .ok (.aload_n 0, 1) := by decide +kernel
theorem dX9_hitsAt_12 : decode cX9_hitsAt 12 = .ok (.iload_n 3, 1) := by decide +kernel
theorem dX9_hitsAt_13 : decode cX9_hitsAt 13 = .ok (.iload 4, 2) := by decide +kernel
theorem dX9_hitsAt_15 : decode cX9_hitsAt 15 = .ok (.iload_n 2, 1) := by decide +kernel
theorem dX9_hitsAt_16 : decode cX9_hitsAt 16 = .ok (.invokestatic 197, 3) := by decide +kernel
theorem dX9_hitsAt_19 : decode cX9_hitsAt 19 = .ok (.iload_n 1, 1) := by decide +kernel
theorem dX9_hitsAt_20 : decode cX9_hitsAt 20 = .ok (.invokevirtual 211, 3) := by decide +kernel
theorem dX9_hitsAt_23 : decode cX9_hitsAt 23 = .ok (.ireturn, 1) := by decide +kernel
theorem dX9_settles_0 : decode cX9_settles 0 = .ok (.iload_n 1, 1) := by decide +kernel
theorem dX9_settles_1 : decode cX9_settles 1 = .ok (.iload_n 2, 1) := by decide +kernel
theorem dX9_settles_2 : decode cX9_settles 2 = .ok (.iload_n 3, 1) := by decide +kernel
theorem dX9_settles_3 : decode cX9_settles 3 = .ok (.invokestatic 207, 3) := by decide +kernel
theorem dX9_settles_6 : decode cX9_settles 6 = .ok (.istore 4, 2) := by decide +kernel
theorem dX9_settles_8 : decode cX9_settles 8 = .ok (.aload_n 0, 1) := by decide +kernel
theorem dX9_settles_9 : decode cX9_settles 9 = .ok (.iload_n 3, 1) := by decide +kernel
theorem dX9_settles_10 : decode cX9_settles 10 = .ok (.iload_n 2, 1) := by decide +kernel
theorem dX9_settles_11 : decode cX9_settles 11 = .ok (.invokevirtual 215, 3) := by decide +kernel
theorem dX9_settles_14 : decode cX9_settles 14 = .ok (.istore 5, 2) := by decide +kernel
theorem dX9_settles_16 : decode cX9_settles 16 = .ok (.aload_n 0, 1) := by decide +kernel
theorem dX9_settles_17 : decode cX9_settles 17 = .ok (.getfield 9, 3) := by decide +kernel
theorem dX9_settles_20 : decode cX9_settles 20 = .ok (.iconst 4, 1) := by decide +kernel
theorem dX9_settles_21 : decode cX9_settles 21 = .ok (.iload_n 3, 1) := by decide +kernel
theorem dX9_settles_22 : decode cX9_settles 22 = .ok (.iadd, 1) := by decide +kernel
theorem dX9_settles_23 : decode cX9_settles 23 = .ok (.iaload, 1) := by decide +kernel
theorem dX9_settles_24 : decode cX9_settles 24 = .ok (.iconst 5, 1) := by decide +kernel
theorem dX9_settles_25 : decode cX9_settles 25 = .ok (.if_icmp .ne 121, 3) := by decide +kernel
theorem dX9_settles_28 : decode cX9_settles 28 = .ok (.aload_n 0, 1) := by decide +kernel
theorem dX9_settles_29 : decode cX9_settles 29 = .ok (.iload_n 1, 1) := by decide +kernel
theorem dX9_settles_30 : decode cX9_settles 30 = .ok (.iload_n 2, 1) := by decide +kernel
theorem dX9_settles_31 : decode cX9_settles 31 = .ok (.iload_n 3, 1) := by decide +kernel
theorem dX9_settles_32 : decode cX9_settles 32 = .ok (.bipush 9, 2) := by decide +kernel
theorem dX9_settles_34 : decode cX9_settles 34 = .ok (.iconst 0, 1) := by decide +kernel
theorem dX9_settles_35 : decode cX9_settles 35 = .ok (.invokevirtual 218, 3) := by decide +kernel
theorem dX9_settles_38 : decode cX9_settles 38 = .ok (.aload_n 0, 1) := by decide +kernel
theorem dX9_settles_39 : decode cX9_settles 39 = .ok (.getfield 56, 3) := by decide +kernel
theorem dX9_settles_42 : decode cX9_settles 42 = .ok (.iload_n 3, 1) := by decide +kernel
theorem dX9_settles_43 : decode cX9_settles 43 = .ok (.laload, 1) := by decide +kernel
theorem dX9_settles_44 : decode cX9_settles 44 = .ok (.lstore 6, 2) := by decide +kernel
theorem dX9_settles_46 : decode cX9_settles 46 = .ok (.iconst 0, 1) := by decide +kernel
theorem dX9_settles_47 : decode cX9_settles 47 = .ok (.istore 8, 2) := by decide +kernel
theorem dX9_settles_49 : decode cX9_settles 49 = .ok (.iload 8, 2) := by decide +kernel
theorem dX9_settles_51 : decode cX9_settles 51 = .ok (.aload_n 0, 1) := by decide +kernel
theorem dX9_settles_52 : decode cX9_settles 52 = .ok (.getfield 96, 3) := by decide +kernel
theorem dX9_settles_55 : decode cX9_settles 55 = .ok (.if_icmp .ge 91, 3) := by decide +kernel
theorem dX9_settles_58 : decode cX9_settles 58 = .ok (.iload 8, 2) := by decide +kernel
theorem dX9_settles_60 : decode cX9_settles 60 = .ok (.iload_n 3, 1) := by decide +kernel
theorem dX9_settles_61 : decode cX9_settles 61 = .ok (.if_icmp .eq 79, 3) := by decide +kernel
theorem dX9_settles_64 : decode cX9_settles 64 = .ok (.iload_n 2, 1) := by decide +kernel
theorem dX9_settles_65 : decode cX9_settles 65 = .ok (.iload 8, 2) := by decide +kernel
theorem dX9_settles_67 : decode cX9_settles 67 = .ok (.invokestatic 133, 3) := by decide +kernel
theorem dX9_settles_70 : decode cX9_settles 70 = .ok (.ifCond .ne 6, 3) := by decide +kernel
theorem dX9_settles_73 : decode cX9_settles 73 = .ok (.goto 67, 3) := by decide +kernel
theorem dX9_settles_76 : decode cX9_settles 76 = .ok (.aload_n 0, 1) := by decide +kernel
theorem dX9_settles_77 : decode cX9_settles 77 = .ok (.iload_n 1, 1) := by decide +kernel
theorem dX9_settles_78 : decode cX9_settles 78 = .ok (.iload_n 2, 1) := by decide +kernel
theorem dX9_settles_79 : decode cX9_settles 79 = .ok (.iload_n 3, 1) := by decide +kernel
theorem dX9_settles_80 : decode cX9_settles 80 = .ok (.iload 8, 2) := by decide +kernel
theorem dX9_settles_82 : decode cX9_settles 82 = .ok (.aload_n 0, 1) := by decide +kernel
theorem dX9_settles_83 : decode cX9_settles 83 = .ok (.iload_n 1, 1) := by decide +kernel
theorem dX9_settles_84 : decode cX9_settles 84 = .ok (.iload_n 2, 1) := by decide +kernel
theorem dX9_settles_85 : decode cX9_settles 85 = .ok (.iload_n 3, 1) := by decide +kernel
theorem dX9_settles_86 : decode cX9_settles 86 = .ok (.iload 8, 2) := by decide +kernel
theorem dX9_settles_88 : decode cX9_settles 88 = .ok (.invokevirtual 222, 3) := by decide +kernel
theorem dX9_settles_91 : decode cX9_settles 91 = .ok (.invokevirtual 218, 3) := by decide +kernel
theorem dX9_settles_94 : decode cX9_settles 94 = .ok (.aload_n 0, 1) := by decide +kernel
theorem dX9_settles_95 : decode cX9_settles 95 = .ok (.getfield 56, 3) := by decide +kernel
theorem dX9_settles_98 : decode cX9_settles 98 = .ok (.iload_n 3, 1) := by decide +kernel
theorem dX9_settles_99 : decode cX9_settles 99 = .ok (.laload, 1) := by decide +kernel
theorem dX9_settles_100 : decode cX9_settles 100 = .ok (.lload 6, 2) := by decide +kernel
theorem dX9_settles_102 : decode cX9_settles 102 = .ok (.lcmp, 1) := by decide +kernel
theorem dX9_settles_103 : decode cX9_settles 103 = .ok (.ifCond .le 8, 3) := by decide +kernel
theorem dX9_settles_106 : decode cX9_settles 106 = .ok (.iload 8, 2) := by decide +kernel
theorem dX9_settles_108 : decode cX9_settles 108 = .ok (.goto 5, 3) := by decide +kernel
theorem dX9_settles_111 : decode cX9_settles 111 = .ok (.iload 5, 2) := by decide +kernel
theorem dX9_settles_113 : decode cX9_settles 113 = .ok (.istore 5, 2) := by decide +kernel
theorem dX9_settles_115 : decode cX9_settles 115 = .ok (.aload_n 0, 1) := by decide +kernel
theorem dX9_settles_116 : decode cX9_settles 116 = .ok (.getfield 56, 3) := by decide +kernel
theorem dX9_settles_119 : decode cX9_settles 119 = .ok (.iload_n 3, 1) := by decide +kernel
theorem dX9_settles_120 : decode cX9_settles 120 = .ok (.laload, 1) := by decide +kernel
theorem dX9_settles_121 : decode cX9_settles 121 = .ok (.lload 6, 2) := by decide +kernel
theorem dX9_settles_123 : decode cX9_settles 123 = .ok (.lcmp, 1) := by decide +kernel
theorem dX9_settles_124 : decode cX9_settles 124 = .ok (.ifCond .le 12, 3) := by decide +kernel
theorem dX9_settles_127 : decode cX9_settles 127 = .ok (.aload_n 0, 1) := by decide +kernel
theorem dX9_settles_128 : decode cX9_settles 128 = .ok (.getfield 56, 3) := by decide +kernel
theorem dX9_settles_131 : decode cX9_settles 131 = .ok (.iload_n 3, 1) := by decide +kernel
theorem dX9_settles_132 : decode cX9_settles 132 = .ok (.laload, 1) := by decide +kernel
theorem dX9_settles_133 : decode cX9_settles 133 = .ok (.goto 5, 3) := by decide +kernel
theorem dX9_settles_136 : decode cX9_settles 136 = .ok (.lload 6, 2) := by decide +kernel
theorem dX9_settles_138 : decode cX9_settles 138 = .ok (.lstore 6, 2) := by decide +kernel
theorem dX9_settles_140 : decode cX9_settles 140 = .ok (.iinc 8 1, 3) := by decide +kernel
theorem dX9_settles_143 : decode cX9_settles 143 = .ok (.goto (-94), 3) := by decide +kernel
theorem dX9_settles_146 : decode cX9_settles 146 = .ok (.aload_n 0, 1) := by decide +kernel
theorem dX9_settles_147 : decode cX9_settles 147 = .ok (.getfield 50, 3) := by decide +kernel
theorem dX9_settles_150 : decode cX9_settles 150 = .ok (.iload 4, 2) := by decide +kernel
theorem dX9_settles_152 : decode cX9_settles 152 = .ok (.iload 5, 2) := by decide +kernel
theorem dX9_settles_154 : decode cX9_settles 154 = .ok (.iastore, 1) := by decide +kernel
theorem dX9_settles_155 : decode cX9_settles 155 = .ok (.aload_n 0, 1) := by decide +kernel
theorem dX9_settles_156 : decode cX9_settles 156 = .ok (.getfield 53, 3) := by decide +kernel
theorem dX9_settles_159 : decode cX9_settles 159 = .ok (.iload 4, 2) := by decide +kernel
theorem dX9_settles_161 : decode cX9_settles 161 = .ok (.aload_n 0, 1) := by decide +kernel
theorem dX9_settles_162 : decode cX9_settles 162 = .ok (.iload_n 1, 1) := by decide +kernel
theorem dX9_settles_163 : decode cX9_settles 163 = .ok (.iload_n 2, 1) := by decide +kernel
theorem dX9_settles_164 : decode cX9_settles 164 = .ok (.iload_n 3, 1) := by decide +kernel
theorem dX9_settles_165 : decode cX9_settles 165 = .ok (.iload 5, 2) := by decide +kernel
theorem dX9_settles_167 : decode cX9_settles 167 = .ok (.invokevirtual 222, 3) := by decide +kernel
theorem dX9_settles_170 : decode cX9_settles 170 = .ok (.iastore, 1) := by decide +kernel
theorem dX9_settles_171 : decode cX9_settles 171 = .ok (.aload_n 0, 1) := by decide +kernel
theorem dX9_settles_172 : decode cX9_settles 172 = .ok (.iload_n 1, 1) := by decide +kernel
theorem dX9_settles_173 : decode cX9_settles 173 = .ok (.iload_n 2, 1) := by decide +kernel
theorem dX9_settles_174 : decode cX9_settles 174 = .ok (.iload_n 3, 1) := by decide +kernel
theorem dX9_settles_175 : decode cX9_settles 175 = .ok (.iload 5, 2) := by decide +kernel
theorem dX9_settles_177 : decode cX9_settles 177 = .ok (.aload_n 0, 1) := by decide +kernel
theorem dX9_settles_178 : decode cX9_settles 178 = .ok (.getfield 53, 3) := by decide +kernel
theorem dX9_settles_181 : decode cX9_settles 181 = .ok (.iload 4, 2) := by decide +kernel
theorem dX9_settles_183 : decode cX9_settles 183 = .ok (.iaload, 1) := by decide +kernel
theorem dX9_settles_184 : decode cX9_settles 184 = .ok (.invokevirtual 218, 3) := by decide +kernel
theorem dX9_settles_187 : decode cX9_settles 187 = .ok (.iconst 0, 1) := by decide +kernel
theorem dX9_settles_188 : decode cX9_settles 188 = .ok (.istore 6, 2) := by decide +kernel
theorem dX9_settles_190 : decode cX9_settles 190 = .ok (.iload 6, 2) := by decide +kernel
theorem dX9_settles_192 : decode cX9_settles 192 = .ok (.aload_n 0, 1) := by decide +kernel
theorem dX9_settles_193 : decode cX9_settles 193 = .ok (.getfield 96, 3) := by decide +kernel
theorem dX9_settles_196 : decode cX9_settles 196 = .ok (.if_icmp .ge 28, 3) := by decide +kernel
theorem dX9_settles_199 : decode cX9_settles 199 = .ok (.aload_n 0, 1) := by decide +kernel
theorem dX9_settles_200 : decode cX9_settles 200 = .ok (.getfield 47, 3) := by decide +kernel
theorem dX9_settles_203 : decode cX9_settles 203 = .ok (.iconst 4, 1) := by decide +kernel
theorem dX9_settles_204 : decode cX9_settles 204 = .ok (.iload 4, 2) := by decide +kernel
theorem dX9_settles_206 : decode cX9_settles 206 = .ok (.imul, 1) := by decide +kernel
theorem dX9_settles_207 : decode cX9_settles 207 = .ok (.iload 6, 2) := by decide +kernel
theorem dX9_settles_209 : decode cX9_settles 209 = .ok (.iadd, 1) := by decide +kernel
theorem dX9_settles_210 : decode cX9_settles 210 = .ok (.aload_n 0, 1) := by decide +kernel
theorem dX9_settles_211 : decode cX9_settles 211 = .ok (.getfield 56, 3) := by decide +kernel
theorem dX9_settles_214 : decode cX9_settles 214 = .ok (.iload 6, 2) := by decide +kernel
theorem dX9_settles_216 : decode cX9_settles 216 = .ok (.laload, 1) := by decide +kernel
theorem dX9_settles_217 : decode cX9_settles 217 = .ok (.lastore, 1) := by decide +kernel
theorem dX9_settles_218 : decode cX9_settles 218 = .ok (.iinc 6 1, 3) := by decide +kernel
theorem dX9_settles_221 : decode cX9_settles 221 = .ok (.goto (-31), 3) := by decide +kernel
theorem dX9_settles_224 : decode cX9_settles 224 = .ok (.return_, 1) := by decide +kernel
theorem dX9_ends1_0 : decode cX9_ends1 0 = .ok (.iload_n 1, 1) := by decide +kernel
theorem dX9_ends1_1 : decode cX9_ends1 1 = .ok (.iload_n 2, 1) := by decide +kernel
theorem dX9_ends1_2 : decode cX9_ends1 2 = .ok (.iload_n 3, 1) := by decide +kernel
theorem dX9_ends1_3 : decode cX9_ends1 3 = .ok (.invokestatic 207, 3) := by decide +kernel
theorem dX9_ends1_6 : decode cX9_ends1 6 = .ok (.istore 4, 2) := by decide +kernel
theorem dX9_ends1_8 : decode cX9_ends1 8 = .ok (.aload_n 0, 1) := by decide +kernel
theorem dX9_ends1_9 : decode cX9_ends1 9 = .ok (.getfield 50, 3) := by decide +kernel
theorem dX9_ends1_12 : decode cX9_ends1 12 = .ok (.iload 4, 2) := by decide +kernel
theorem dX9_ends1_14 : decode cX9_ends1 14 = .ok (.bipush 9, 2) := by decide +kernel
theorem dX9_ends1_16 : decode cX9_ends1 16 = .ok (.iastore, 1) := by decide +kernel
theorem dX9_ends1_17 : decode cX9_ends1 17 = .ok (.aload_n 0, 1) := by decide +kernel
theorem dX9_ends1_18 : decode cX9_ends1 18 = .ok (.getfield 53, 3) := by decide +kernel
theorem dX9_ends1_21 : decode cX9_ends1 21 = .ok (.iload 4, 2) := by decide +kernel
theorem dX9_ends1_23 : decode cX9_ends1 23 = .ok (.iconst 0, 1) := by decide +kernel
theorem dX9_ends1_24 : decode cX9_ends1 24 = .ok (.iastore, 1) := by decide +kernel
theorem dX9_ends1_25 : decode cX9_ends1 25 = .ok (.iconst 0, 1) := by decide +kernel
theorem dX9_ends1_26 : decode cX9_ends1 26 = .ok (.istore 5, 2) := by decide +kernel
theorem dX9_ends1_28 : decode cX9_ends1 28 = .ok (.iload 5, 2) := by decide +kernel
theorem dX9_ends1_30 : decode cX9_ends1 30 = .ok (.aload_n 0, 1) := by decide +kernel
theorem dX9_ends1_31 : decode cX9_ends1 31 = .ok (.getfield 96, 3) := by decide +kernel
theorem dX9_ends1_34 : decode cX9_ends1 34 = .ok (.if_icmp .ge 56, 3) := by decide +kernel
theorem dX9_ends1_37 : decode cX9_ends1 37 = .ok (.aload_n 0, 1) := by decide +kernel
theorem dX9_ends1_38 : decode cX9_ends1 38 = .ok (.getfield 47, 3) := by decide +kernel
theorem dX9_ends1_41 : decode cX9_ends1 41 = .ok (.iconst 4, 1) := by decide +kernel
theorem dX9_ends1_42 : decode cX9_ends1 42 = .ok (.iload 4, 2) := by decide +kernel
theorem dX9_ends1_44 : decode cX9_ends1 44 = .ok (.imul, 1) := by decide +kernel
theorem dX9_ends1_45 : decode cX9_ends1 45 = .ok (.iload 5, 2) := by decide +kernel
theorem dX9_ends1_47 : decode cX9_ends1 47 = .ok (.iadd, 1) := by decide +kernel
theorem dX9_ends1_48 : decode cX9_ends1 48 = .ok (.iload_n 2, 1) := by decide +kernel
theorem dX9_ends1_49 : decode cX9_ends1 49 = .ok (.iload 5, 2) := by decide +kernel
theorem dX9_ends1_51 : decode cX9_ends1 51 = .ok (.invokestatic 133, 3) := by decide +kernel
theorem dX9_ends1_54 : decode cX9_ends1 54 = .ok (.ifCond .eq 28, 3) := by decide +kernel
theorem dX9_ends1_57 : decode cX9_ends1 57 = .ok (.aload_n 0, 1) := by decide +kernel
theorem dX9_ends1_58 : decode cX9_ends1 58 = .ok (.getfield 28, 3) := by decide +kernel
theorem dX9_ends1_61 : decode cX9_ends1 61 = .ok (.iload_n 2, 1) := by decide +kernel
theorem dX9_ends1_62 : decode cX9_ends1 62 = .ok (.invokestatic 197, 3) := by decide +kernel
theorem dX9_ends1_65 : decode cX9_ends1 65 = .ok (.iaload, 1) := by decide +kernel
theorem dX9_ends1_66 : decode cX9_ends1 66 = .ok (.i2l, 1) := by decide +kernel
theorem dX9_ends1_67 : decode cX9_ends1 67 = .ok (.aload_n 0, 1) := by decide +kernel
theorem dX9_ends1_68 : decode cX9_ends1 68 = .ok (.getfield 43, 3) := by decide +kernel
theorem dX9_ends1_71 : decode cX9_ends1 71 = .ok (.aload_n 0, 1) := by decide +kernel
theorem dX9_ends1_72 : decode cX9_ends1 72 = .ok (.getfield 87, 3) := by decide +kernel
theorem dX9_ends1_75 : decode cX9_ends1 75 = .ok (.iload_n 1, 1) := by decide +kernel
theorem dX9_ends1_76 : decode cX9_ends1 76 = .ok (.isub, 1) := by decide +kernel
theorem dX9_ends1_77 : decode cX9_ends1 77 = .ok (.laload, 1) := by decide +kernel
theorem dX9_ends1_78 : decode cX9_ends1 78 = .ok (.lmul, 1) := by decide +kernel
theorem dX9_ends1_79 : decode cX9_ends1 79 = .ok (.goto 4, 3) := by decide +kernel
theorem dX9_ends1_82 : decode cX9_ends1 82 = .ok (.lconst 0, 1) := by decide +kernel
theorem dX9_ends1_83 : decode cX9_ends1 83 = .ok (.lastore, 1) := by decide +kernel
theorem dX9_ends1_84 : decode cX9_ends1 84 = .ok (.iinc 5 1, 3) := by decide +kernel
theorem dX9_ends1_87 : decode cX9_ends1 87 = .ok (.goto (-59), 3) := by decide +kernel
theorem dX9_ends1_90 : decode cX9_ends1 90 = .ok (.return_, 1) := by decide +kernel
theorem dX9_solves_0 : decode cX9_solves 0 = .ok (.aload_n 0, 1) := by decide +kernel
theorem dX9_solves_1 : decode cX9_solves 1 = .ok (.getfield 43, 3) := by decide +kernel
theorem dX9_solves_4 : decode cX9_solves 4 = .ok (.iconst 0, 1) := by decide +kernel
theorem dX9_solves_5 : decode cX9_solves 5 = .ok (.lconst 1, 1) := by decide +kernel
theorem dX9_solves_6 : decode cX9_solves 6 = .ok (.lastore, 1) := by decide +kernel
theorem dX9_solves_7 : decode cX9_solves 7 = .ok (.iconst 1, 1) := by decide +kernel
theorem dX9_solves_8 : decode cX9_solves 8 = .ok (.istore_n 1, 1) := by decide +kernel
theorem dX9_solves_9 : decode cX9_solves 9 = .ok (.iload_n 1, 1) := by decide +kernel
theorem dX9_solves_10 : decode cX9_solves 10 = .ok (.bipush 9, 2) := by decide +kernel
theorem dX9_solves_12 : decode cX9_solves 12 = .ok (.if_icmp .gt 27, 3) := by decide +kernel
theorem dX9_solves_15 : decode cX9_solves 15 = .ok (.aload_n 0, 1) := by decide +kernel
theorem dX9_solves_16 : decode cX9_solves 16 = .ok (.getfield 43, 3) := by decide +kernel
theorem dX9_solves_19 : decode cX9_solves 19 = .ok (.iload_n 1, 1) := by decide +kernel
theorem dX9_solves_20 : decode cX9_solves 20 = .ok (.ldc2_w 103, 3) := by decide +kernel
theorem dX9_solves_23 : decode cX9_solves 23 = .ok (.aload_n 0, 1) := by decide +kernel
theorem dX9_solves_24 : decode cX9_solves 24 = .ok (.getfield 43, 3) := by decide +kernel
theorem dX9_solves_27 : decode cX9_solves 27 = .ok (.iload_n 1, 1) := by decide +kernel
theorem dX9_solves_28 : decode cX9_solves 28 = .ok (.iconst 1, 1) := by decide +kernel
theorem dX9_solves_29 : decode cX9_solves 29 = .ok (.isub, 1) := by decide +kernel
theorem dX9_solves_30 : decode cX9_solves 30 = .ok (.laload, 1) := by decide +kernel
theorem dX9_solves_31 : decode cX9_solves 31 = .ok (.lmul, 1) := by decide +kernel
theorem dX9_solves_32 : decode cX9_solves 32 = .ok (.lastore, 1) := by decide +kernel
theorem dX9_solves_33 : decode cX9_solves 33 = .ok (.iinc 1 1, 3) := by decide +kernel
theorem dX9_solves_36 : decode cX9_solves 36 = .ok (.goto (-27), 3) := by decide +kernel
theorem dX9_solves_39 : decode cX9_solves 39 = .ok (.aload_n 0, 1) := by decide +kernel
theorem dX9_solves_40 : decode cX9_solves 40 = .ok (.getfield 87, 3) := by decide +kernel
theorem dX9_solves_43 : decode cX9_solves 43 = .ok (.istore_n 1, 1) := by decide +kernel
theorem dX9_solves_44 : decode cX9_solves 44 = .ok (.iload_n 1, 1) := by decide +kernel
theorem dX9_solves_45 : decode cX9_solves 45 = .ok (.ifCond .lt 75, 3) := by decide +kernel
theorem dX9_solves_48 : decode cX9_solves 48 = .ok (.iconst 0, 1) := by decide +kernel
theorem dX9_solves_49 : decode cX9_solves 49 = .ok (.istore_n 2, 1) := by decide +kernel
theorem dX9_solves_50 : decode cX9_solves 50 = .ok (.iload_n 2, 1) := by decide +kernel
theorem dX9_solves_51 : decode cX9_solves 51 = .ok (.aload_n 0, 1) := by decide +kernel
theorem dX9_solves_52 : decode cX9_solves 52 = .ok (.invokevirtual 225, 3) := by decide +kernel
theorem dX9_solves_55 : decode cX9_solves 55 = .ok (.if_icmp .gt 59, 3) := by decide +kernel
theorem dX9_solves_58 : decode cX9_solves 58 = .ok (.iconst 0, 1) := by decide +kernel
theorem dX9_solves_59 : decode cX9_solves 59 = .ok (.istore_n 3, 1) := by decide +kernel
theorem dX9_solves_60 : decode cX9_solves 60 = .ok (.iload_n 3, 1) := by decide +kernel
theorem dX9_solves_61 : decode cX9_solves 61 = .ok (.aload_n 0, 1) := by decide +kernel
theorem dX9_solves_62 : decode cX9_solves 62 = .ok (.getfield 96, 3) := by decide +kernel
theorem dX9_solves_65 : decode cX9_solves 65 = .ok (.if_icmp .ge 43, 3) := by decide +kernel
theorem dX9_solves_68 : decode cX9_solves 68 = .ok (.aload_n 0, 1) := by decide +kernel
theorem dX9_solves_69 : decode cX9_solves 69 = .ok (.iload_n 1, 1) := by decide +kernel
theorem dX9_solves_70 : decode cX9_solves 70 = .ok (.iload_n 2, 1) := by decide +kernel
theorem dX9_solves_71 : decode cX9_solves 71 = .ok (.invokevirtual 228, 3) := by decide +kernel
theorem dX9_solves_74 : decode cX9_solves 74 = .ok (.ifCond .eq 13, 3) := by decide +kernel
theorem dX9_solves_77 : decode cX9_solves 77 = .ok (.aload_n 0, 1) := by decide +kernel
theorem dX9_solves_78 : decode cX9_solves 78 = .ok (.iload_n 1, 1) := by decide +kernel
theorem dX9_solves_79 : decode cX9_solves 79 = .ok (.iload_n 2, 1) := by decide +kernel
theorem dX9_solves_80 : decode cX9_solves 80 = .ok (.iload_n 3, 1) := by decide +kernel
theorem dX9_solves_81 : decode cX9_solves 81 = .ok (.invokevirtual 231, 3) := by decide +kernel
theorem dX9_solves_84 : decode cX9_solves 84 = .ok (.goto 18, 3) := by decide +kernel
theorem dX9_solves_87 : decode cX9_solves 87 = .ok (.iload_n 2, 1) := by decide +kernel
theorem dX9_solves_88 : decode cX9_solves 88 = .ok (.iload_n 3, 1) := by decide +kernel
theorem dX9_solves_89 : decode cX9_solves 89 = .ok (.invokestatic 133, 3) := by decide +kernel
theorem dX9_solves_92 : decode cX9_solves 92 = .ok (.ifCond .eq 10, 3) := by decide +kernel
theorem dX9_solves_95 : decode cX9_solves 95 = .ok (.aload_n 0, 1) := by decide +kernel
theorem dX9_solves_96 : decode cX9_solves 96 = .ok (.iload_n 1, 1) := by decide +kernel
theorem dX9_solves_97 : decode cX9_solves 97 = .ok (.iload_n 2, 1) := by decide +kernel
theorem dX9_solves_98 : decode cX9_solves 98 = .ok (.iload_n 3, 1) := by decide +kernel
theorem dX9_solves_99 : decode cX9_solves 99 = .ok (.invokevirtual 235, 3) := by decide +kernel
theorem dX9_solves_102 : decode cX9_solves 102 = .ok (.iinc 3 1, 3) := by decide +kernel
theorem dX9_solves_105 : decode cX9_solves 105 = .ok (.goto (-45), 3) := by decide +kernel
theorem dX9_solves_108 : decode cX9_solves 108 = .ok (.iinc 2 1, 3) := by decide +kernel
theorem dX9_solves_111 : decode cX9_solves 111 = .ok (.goto (-61), 3) := by decide +kernel
theorem dX9_solves_114 : decode cX9_solves 114 = .ok (.iinc 1 (-1), 3) := by decide +kernel
theorem dX9_solves_117 : decode cX9_solves 117 = .ok (.goto (-73), 3) := by decide +kernel
theorem dX9_solves_120 : decode cX9_solves 120 = .ok (.return_, 1) := by decide +kernel
theorem dX9_startOf_0 : decode cX9_startOf 0 = .ok (.iconst 0, 1) := by decide +kernel
theorem dX9_startOf_1 : decode cX9_startOf 1 = .ok (.istore_n 3, 1) := by decide +kernel
theorem dX9_startOf_2 : decode cX9_startOf 2 = .ok (.iload_n 3, 1) := by decide +kernel
theorem dX9_startOf_3 : decode cX9_startOf 3 = .ok (.aload_n 0, 1) := by decide +kernel
theorem dX9_startOf_4 : decode cX9_startOf 4 = .ok (.getfield 96, 3) := by decide +kernel
theorem dX9_startOf_7 : decode cX9_startOf 7 = .ok (.if_icmp .ge 36, 3) := by decide +kernel
theorem dX9_startOf_10 : decode cX9_startOf 10 = .ok (.aload_n 0, 1) := by decide +kernel
theorem dX9_startOf_11 : decode cX9_startOf 11 = .ok (.getfield 22, 3) := by decide +kernel
theorem dX9_startOf_14 : decode cX9_startOf 14 = .ok (.iload_n 2, 1) := by decide +kernel
theorem dX9_startOf_15 : decode cX9_startOf 15 = .ok (.iload_n 3, 1) := by decide +kernel
theorem dX9_startOf_16 : decode cX9_startOf 16 = .ok (.iadd, 1) := by decide +kernel
theorem dX9_startOf_17 : decode cX9_startOf 17 = .ok (.aload_n 0, 1) := by decide +kernel
theorem dX9_startOf_18 : decode cX9_startOf 18 = .ok (.getfield 96, 3) := by decide +kernel
theorem dX9_startOf_21 : decode cX9_startOf 21 = .ok (.irem, 1) := by decide +kernel
theorem dX9_startOf_22 : decode cX9_startOf 22 = .ok (.iaload, 1) := by decide +kernel
theorem dX9_startOf_23 : decode cX9_startOf 23 = .ok (.istore 4, 2) := by decide +kernel
theorem dX9_startOf_25 : decode cX9_startOf 25 = .ok (.iload_n 1, 1) := by decide +kernel
theorem dX9_startOf_26 : decode cX9_startOf 26 = .ok (.iload 4, 2) := by decide +kernel
theorem dX9_startOf_28 : decode cX9_startOf 28 = .ok (.invokestatic 133, 3) := by decide +kernel
theorem dX9_startOf_31 : decode cX9_startOf 31 = .ok (.ifCond .eq 6, 3) := by decide +kernel
theorem dX9_startOf_34 : decode cX9_startOf 34 = .ok (.iload 4, 2) := by decide +kernel
theorem dX9_startOf_36 : decode cX9_startOf 36 = .ok (.ireturn, 1) := by decide +kernel
theorem dX9_startOf_37 : decode cX9_startOf 37 = .ok (.iinc 3 1, 3) := by decide +kernel
theorem dX9_startOf_40 : decode cX9_startOf 40 = .ok (.goto (-38), 3) := by decide +kernel
theorem dX9_startOf_43 : decode cX9_startOf 43 = .ok (.iconst 0, 1) := by decide +kernel
theorem dX9_startOf_44 : decode cX9_startOf 44 = .ok (.ireturn, 1) := by decide +kernel
theorem dX9_worthFrom_0 : decode cX9_worthFrom 0 = .ok (.aload_n 0, 1) := by decide +kernel
theorem dX9_worthFrom_1 : decode cX9_worthFrom 1 = .ok (.getfield 47, 3) := by decide +kernel
theorem dX9_worthFrom_4 : decode cX9_worthFrom 4 = .ok (.iconst 4, 1) := by decide +kernel
theorem dX9_worthFrom_5 : decode cX9_worthFrom 5 = .ok (.iconst 0, 1) := by decide +kernel
theorem dX9_worthFrom_6 : decode cX9_worthFrom 6 = .ok (.iload_n 1, 1) := by decide +kernel
theorem dX9_worthFrom_7 : decode cX9_worthFrom 7 = .ok (.aload_n 0, 1) := by decide +kernel
theorem dX9_worthFrom_8 : decode cX9_worthFrom 8 = .ok (.iload_n 1, 1) := by decide +kernel
theorem dX9_worthFrom_9 : decode cX9_worthFrom 9 = .ok (.iload_n 2, 1) := by decide +kernel
theorem dX9_worthFrom_10 : decode cX9_worthFrom 10 = .ok (.invokevirtual 238, 3) := by decide +kernel
theorem dX9_worthFrom_13 : decode cX9_worthFrom 13 = .ok (.invokestatic 207, 3) := by decide +kernel
theorem dX9_worthFrom_16 : decode cX9_worthFrom 16 = .ok (.imul, 1) := by decide +kernel
theorem dX9_worthFrom_17 : decode cX9_worthFrom 17 = .ok (.iload_n 3, 1) := by decide +kernel
theorem dX9_worthFrom_18 : decode cX9_worthFrom 18 = .ok (.iadd, 1) := by decide +kernel
theorem dX9_worthFrom_19 : decode cX9_worthFrom 19 = .ok (.laload, 1) := by decide +kernel
theorem dX9_worthFrom_20 : decode cX9_worthFrom 20 = .ok (.lreturn, 1) := by decide +kernel
theorem dX9_worthOf_0 : decode cX9_worthOf 0 = .ok (.aload_n 0, 1) := by decide +kernel
theorem dX9_worthOf_1 : decode cX9_worthOf 1 = .ok (.invokevirtual 241, 3) := by decide +kernel
theorem dX9_worthOf_4 : decode cX9_worthOf 4 = .ok (.aload_n 0, 1) := by decide +kernel
theorem dX9_worthOf_5 : decode cX9_worthOf 5 = .ok (.aload_n 0, 1) := by decide +kernel
theorem dX9_worthOf_6 : decode cX9_worthOf 6 = .ok (.invokevirtual 225, 3) := by decide +kernel
theorem dX9_worthOf_9 : decode cX9_worthOf 9 = .ok (.iconst 0, 1) := by decide +kernel
theorem dX9_worthOf_10 : decode cX9_worthOf 10 = .ok (.iload_n 1, 1) := by decide +kernel
theorem dX9_worthOf_11 : decode cX9_worthOf 11 = .ok (.invokevirtual 244, 3) := by decide +kernel
theorem dX9_worthOf_14 : decode cX9_worthOf 14 = .ok (.lreturn, 1) := by decide +kernel
theorem dX9_atEnd_0 : decode cX9_atEnd 0 = .ok (.iload_n 3, 1) := by decide +kernel
theorem dX9_atEnd_1 : decode cX9_atEnd 1 = .ok (.tableswitch 68 0 2 #[27, 42, 56], 27) := by decide +kernel
theorem dX9_atEnd_28 : decode cX9_atEnd 28 = .ok (.iload_n 2, 1) := by decide +kernel
theorem dX9_atEnd_29 : decode cX9_atEnd 29 = .ok (.iload 4, 2) := by decide +kernel
theorem dX9_atEnd_31 : decode cX9_atEnd 31 = .ok (.invokestatic 133, 3) := by decide +kernel
theorem dX9_atEnd_34 : decode cX9_atEnd 34 = .ok (.ifCond .eq 7, 3) := by decide +kernel
theorem dX9_atEnd_37 : decode cX9_atEnd 37 = .ok (.lconst 1, 1) := by decide +kernel
theorem dX9_atEnd_38 : decode cX9_atEnd 38 = .ok (.goto 4, 3) := by decide +kernel
theorem dX9_atEnd_41 : decode cX9_atEnd 41 = .ok (.lconst 0, 1) := by decide +kernel
theorem dX9_atEnd_42 : decode cX9_atEnd 42 = .ok (.lreturn, 1) := by decide +kernel
theorem dX9_atEnd_43 : decode cX9_atEnd 43 = .ok (.iload_n 2, 1) := by decide +kernel
theorem dX9_atEnd_44 : decode cX9_atEnd 44 = .ok (.iconst 1, 1) := by decide +kernel
theorem dX9_atEnd_45 : decode cX9_atEnd 45 = .ok (.iload 4, 2) := by decide +kernel
theorem dX9_atEnd_47 : decode cX9_atEnd 47 = .ok (.ishl, 1) := by decide +kernel
theorem dX9_atEnd_48 : decode cX9_atEnd 48 = .ok (.if_icmp .ne 7, 3) := by decide +kernel
theorem dX9_atEnd_51 : decode cX9_atEnd 51 = .ok (.lconst 1, 1) := by decide +kernel
theorem dX9_atEnd_52 : decode cX9_atEnd 52 = .ok (.goto 4, 3) := by decide +kernel
theorem dX9_atEnd_55 : decode cX9_atEnd 55 = .ok (.lconst 0, 1) := by decide +kernel
theorem dX9_atEnd_56 : decode cX9_atEnd 56 = .ok (.lreturn, 1) := by decide +kernel
theorem dX9_atEnd_57 : decode cX9_atEnd 57 = .ok (.iload_n 2, 1) := by decide +kernel
theorem dX9_atEnd_58 : decode cX9_atEnd 58 = .ok (.iload 4, 2) := by decide +kernel
theorem dX9_atEnd_60 : decode cX9_atEnd 60 = .ok (.if_icmp .ne 7, 3) := by decide +kernel
theorem dX9_atEnd_63 : decode cX9_atEnd 63 = .ok (.lconst 1, 1) := by decide +kernel
theorem dX9_atEnd_64 : decode cX9_atEnd 64 = .ok (.goto 4, 3) := by decide +kernel
theorem dX9_atEnd_67 : decode cX9_atEnd 67 = .ok (.lconst 0, 1) := by decide +kernel
theorem dX9_atEnd_68 : decode cX9_atEnd 68 = .ok (.lreturn, 1) := by decide +kernel
theorem dX9_atEnd_69 : decode cX9_atEnd 69 = .ok (.iload_n 1, 1) := by decide +kernel
theorem dX9_atEnd_70 : decode cX9_atEnd 70 = .ok (.i2l, 1) := by decide +kernel
theorem dX9_atEnd_71 : decode cX9_atEnd 71 = .ok (.lreturn, 1) := by decide +kernel
theorem dX9_valueOf_0 : decode cX9_valueOf 0 = .ok (.aload_n 0, 1) := by decide +kernel
theorem dX9_valueOf_1 : decode cX9_valueOf 1 = .ok (.invokevirtual 241, 3) := by decide +kernel
theorem dX9_valueOf_4 : decode cX9_valueOf 4 = .ok (.aload_n 0, 1) := by decide +kernel
theorem dX9_valueOf_5 : decode cX9_valueOf 5 = .ok (.getfield 96, 3) := by decide +kernel
theorem dX9_valueOf_8 : decode cX9_valueOf 8 = .ok (.ifCond .ne 22, 3) := by decide +kernel
theorem dX9_valueOf_11 : decode cX9_valueOf 11 = .ok (.iload_n 1, 1) := by decide +kernel
theorem dX9_valueOf_12 : decode cX9_valueOf 12 = .ok (.iconst 2, 1) := by decide +kernel
theorem dX9_valueOf_13 : decode cX9_valueOf 13 = .ok (.if_icmp .ne 15, 3) := by decide +kernel
theorem dX9_valueOf_16 : decode cX9_valueOf 16 = .ok (.aload_n 0, 1) := by decide +kernel
theorem dX9_valueOf_17 : decode cX9_valueOf 17 = .ok (.getfield 43, 3) := by decide +kernel
theorem dX9_valueOf_20 : decode cX9_valueOf 20 = .ok (.aload_n 0, 1) := by decide +kernel
theorem dX9_valueOf_21 : decode cX9_valueOf 21 = .ok (.getfield 87, 3) := by decide +kernel
theorem dX9_valueOf_24 : decode cX9_valueOf 24 = .ok (.laload, 1) := by decide +kernel
theorem dX9_valueOf_25 : decode cX9_valueOf 25 = .ok (.goto 4, 3) := by decide +kernel
theorem dX9_valueOf_28 : decode cX9_valueOf 28 = .ok (.lconst 0, 1) := by decide +kernel
theorem dX9_valueOf_29 : decode cX9_valueOf 29 = .ok (.lreturn, 1) := by decide +kernel
theorem dX9_valueOf_30 : decode cX9_valueOf 30 = .ok (.aload_n 0, 1) := by decide +kernel
theorem dX9_valueOf_31 : decode cX9_valueOf 31 = .ok (.getfield 87, 3) := by decide +kernel
theorem dX9_valueOf_34 : decode cX9_valueOf 34 = .ok (.istore_n 3, 1) := by decide +kernel
theorem dX9_valueOf_35 : decode cX9_valueOf 35 = .ok (.iload_n 3, 1) := by decide +kernel
theorem dX9_valueOf_36 : decode cX9_valueOf 36 = .ok (.ifCond .lt 209, 3) := by decide +kernel
theorem dX9_valueOf_39 : decode cX9_valueOf 39 = .ok (.iconst 0, 1) := by decide +kernel
theorem dX9_valueOf_40 : decode cX9_valueOf 40 = .ok (.istore 4, 2) := by decide +kernel
theorem dX9_valueOf_42 : decode cX9_valueOf 42 = .ok (.iload 4, 2) := by decide +kernel
theorem dX9_valueOf_44 : decode cX9_valueOf 44 = .ok (.aload_n 0, 1) := by decide +kernel
theorem dX9_valueOf_45 : decode cX9_valueOf 45 = .ok (.invokevirtual 225, 3) := by decide +kernel
theorem dX9_valueOf_48 : decode cX9_valueOf 48 = .ok (.if_icmp .gt 191, 3) := by decide +kernel
theorem dX9_valueOf_51 : decode cX9_valueOf 51 = .ok (.iconst 0, 1) := by decide +kernel
theorem dX9_valueOf_52 : decode cX9_valueOf 52 = .ok (.istore 5, 2) := by decide +kernel
theorem dX9_valueOf_54 : decode cX9_valueOf 54 = .ok (.iload 5, 2) := by decide +kernel
theorem dX9_valueOf_56 : decode cX9_valueOf 56 = .ok (.aload_n 0, 1) := by decide +kernel
theorem dX9_valueOf_57 : decode cX9_valueOf 57 = .ok (.getfield 96, 3) := by decide +kernel
theorem dX9_valueOf_60 : decode cX9_valueOf 60 = .ok (.if_icmp .ge 173, 3) := by decide +kernel
theorem dX9_valueOf_63 : decode cX9_valueOf 63 = .ok (.iload_n 3, 1) := by decide +kernel
theorem dX9_valueOf_64 : decode cX9_valueOf 64 = .ok (.iload 4, 2) := by decide +kernel
theorem dX9_valueOf_66 : decode cX9_valueOf 66 = .ok (.iload 5, 2) := by decide +kernel
theorem dX9_valueOf_68 : decode cX9_valueOf 68 = .ok (.invokestatic 207, 3) := by decide +kernel
theorem dX9_valueOf_71 : decode cX9_valueOf 71 = .ok (.istore 6, 2) := by decide +kernel
theorem dX9_valueOf_73 : decode cX9_valueOf 73 = .ok (.aload_n 0, 1) := by decide +kernel
theorem dX9_valueOf_74 : decode cX9_valueOf 74 = .ok (.iload_n 3, 1) := by decide +kernel
theorem dX9_valueOf_75 : decode cX9_valueOf 75 = .ok (.iload 4, 2) := by decide +kernel
theorem dX9_valueOf_77 : decode cX9_valueOf 77 = .ok (.invokevirtual 228, 3) := by decide +kernel
theorem dX9_valueOf_80 : decode cX9_valueOf 80 = .ok (.ifCond .eq 34, 3) := by decide +kernel
theorem dX9_valueOf_83 : decode cX9_valueOf 83 = .ok (.aload_n 0, 1) := by decide +kernel
theorem dX9_valueOf_84 : decode cX9_valueOf 84 = .ok (.getfield 59, 3) := by decide +kernel
theorem dX9_valueOf_87 : decode cX9_valueOf 87 = .ok (.iload 6, 2) := by decide +kernel
theorem dX9_valueOf_89 : decode cX9_valueOf 89 = .ok (.aload_n 0, 1) := by decide +kernel
theorem dX9_valueOf_90 : decode cX9_valueOf 90 = .ok (.iload_n 3, 1) := by decide +kernel
theorem dX9_valueOf_91 : decode cX9_valueOf 91 = .ok (.iload 4, 2) := by decide +kernel
theorem dX9_valueOf_93 : decode cX9_valueOf 93 = .ok (.iload_n 1, 1) := by decide +kernel
theorem dX9_valueOf_94 : decode cX9_valueOf 94 = .ok (.iload_n 2, 1) := by decide +kernel
theorem dX9_valueOf_95 : decode cX9_valueOf 95 = .ok (.invokevirtual 248, 3) := by decide +kernel
theorem dX9_valueOf_98 : decode cX9_valueOf 98 = .ok (.aload_n 0, 1) := by decide +kernel
theorem dX9_valueOf_99 : decode cX9_valueOf 99 = .ok (.getfield 43, 3) := by decide +kernel
theorem dX9_valueOf_102 : decode cX9_valueOf 102 = .ok (.aload_n 0, 1) := by decide +kernel
theorem dX9_valueOf_103 : decode cX9_valueOf 103 = .ok (.getfield 87, 3) := by decide +kernel
theorem dX9_valueOf_106 : decode cX9_valueOf 106 = .ok (.iload_n 3, 1) := by decide +kernel
theorem dX9_valueOf_107 : decode cX9_valueOf 107 = .ok (.isub, 1) := by decide +kernel
theorem dX9_valueOf_108 : decode cX9_valueOf 108 = .ok (.laload, 1) := by decide +kernel
theorem dX9_valueOf_109 : decode cX9_valueOf 109 = .ok (.lmul, 1) := by decide +kernel
theorem dX9_valueOf_110 : decode cX9_valueOf 110 = .ok (.lastore, 1) := by decide +kernel
theorem dX9_valueOf_111 : decode cX9_valueOf 111 = .ok (.goto 116, 3) := by decide +kernel
theorem dX9_valueOf_114 : decode cX9_valueOf 114 = .ok (.iload 4, 2) := by decide +kernel
theorem dX9_valueOf_116 : decode cX9_valueOf 116 = .ok (.iload 5, 2) := by decide +kernel
theorem dX9_valueOf_118 : decode cX9_valueOf 118 = .ok (.invokestatic 133, 3) := by decide +kernel
theorem dX9_valueOf_121 : decode cX9_valueOf 121 = .ok (.ifCond .eq 106, 3) := by decide +kernel
theorem dX9_valueOf_124 : decode cX9_valueOf 124 = .ok (.aload_n 0, 1) := by decide +kernel
theorem dX9_valueOf_125 : decode cX9_valueOf 125 = .ok (.getfield 50, 3) := by decide +kernel
theorem dX9_valueOf_128 : decode cX9_valueOf 128 = .ok (.iload 6, 2) := by decide +kernel
theorem dX9_valueOf_130 : decode cX9_valueOf 130 = .ok (.iaload, 1) := by decide +kernel
theorem dX9_valueOf_131 : decode cX9_valueOf 131 = .ok (.istore 7, 2) := by decide +kernel
theorem dX9_valueOf_133 : decode cX9_valueOf 133 = .ok (.iload 7, 2) := by decide +kernel
theorem dX9_valueOf_135 : decode cX9_valueOf 135 = .ok (.bipush 9, 2) := by decide +kernel
theorem dX9_valueOf_137 : decode cX9_valueOf 137 = .ok (.if_icmp .ne 8, 3) := by decide +kernel
theorem dX9_valueOf_140 : decode cX9_valueOf 140 = .ok (.iload 4, 2) := by decide +kernel
theorem dX9_valueOf_142 : decode cX9_valueOf 142 = .ok (.goto 12, 3) := by decide +kernel
theorem dX9_valueOf_145 : decode cX9_valueOf 145 = .ok (.iload 4, 2) := by decide +kernel
theorem dX9_valueOf_147 : decode cX9_valueOf 147 = .ok (.iconst 1, 1) := by decide +kernel
theorem dX9_valueOf_148 : decode cX9_valueOf 148 = .ok (.iload 7, 2) := by decide +kernel
theorem dX9_valueOf_150 : decode cX9_valueOf 150 = .ok (.ishl, 1) := by decide +kernel
theorem dX9_valueOf_151 : decode cX9_valueOf 151 = .ok (.iconst (-1), 1) := by decide +kernel
theorem dX9_valueOf_152 : decode cX9_valueOf 152 = .ok (.ixor, 1) := by decide +kernel
theorem dX9_valueOf_153 : decode cX9_valueOf 153 = .ok (.iand, 1) := by decide +kernel
theorem dX9_valueOf_154 : decode cX9_valueOf 154 = .ok (.istore 8, 2) := by decide +kernel
theorem dX9_valueOf_156 : decode cX9_valueOf 156 = .ok (.aload_n 0, 1) := by decide +kernel
theorem dX9_valueOf_157 : decode cX9_valueOf 157 = .ok (.getfield 59, 3) := by decide +kernel
theorem dX9_valueOf_160 : decode cX9_valueOf 160 = .ok (.iload 6, 2) := by decide +kernel
theorem dX9_valueOf_162 : decode cX9_valueOf 162 = .ok (.aload_n 0, 1) := by decide +kernel
theorem dX9_valueOf_163 : decode cX9_valueOf 163 = .ok (.getfield 53, 3) := by decide +kernel
theorem dX9_valueOf_166 : decode cX9_valueOf 166 = .ok (.iload 6, 2) := by decide +kernel
theorem dX9_valueOf_168 : decode cX9_valueOf 168 = .ok (.iaload, 1) := by decide +kernel
theorem dX9_valueOf_169 : decode cX9_valueOf 169 = .ok (.i2l, 1) := by decide +kernel
theorem dX9_valueOf_170 : decode cX9_valueOf 170 = .ok (.aload_n 0, 1) := by decide +kernel
theorem dX9_valueOf_171 : decode cX9_valueOf 171 = .ok (.getfield 59, 3) := by decide +kernel
theorem dX9_valueOf_174 : decode cX9_valueOf 174 = .ok (.iload_n 3, 1) := by decide +kernel
theorem dX9_valueOf_175 : decode cX9_valueOf 175 = .ok (.iconst 1, 1) := by decide +kernel
theorem dX9_valueOf_176 : decode cX9_valueOf 176 = .ok (.iadd, 1) := by decide +kernel
theorem dX9_valueOf_177 : decode cX9_valueOf 177 = .ok (.iload 8, 2) := by decide +kernel
theorem dX9_valueOf_179 : decode cX9_valueOf 179 = .ok (.aload_n 0, 1) := by decide +kernel
theorem dX9_valueOf_180 : decode cX9_valueOf 180 = .ok (.iload 5, 2) := by decide +kernel
theorem dX9_valueOf_182 : decode cX9_valueOf 182 = .ok (.iload 8, 2) := by decide +kernel
theorem dX9_valueOf_184 : decode cX9_valueOf 184 = .ok (.invokevirtual 204, 3) := by decide +kernel
theorem dX9_valueOf_187 : decode cX9_valueOf 187 = .ok (.invokestatic 207, 3) := by decide +kernel
theorem dX9_valueOf_190 : decode cX9_valueOf 190 = .ok (.laload, 1) := by decide +kernel
theorem dX9_valueOf_191 : decode cX9_valueOf 191 = .ok (.lmul, 1) := by decide +kernel
theorem dX9_valueOf_192 : decode cX9_valueOf 192 = .ok (.bipush 12, 2) := by decide +kernel
theorem dX9_valueOf_194 : decode cX9_valueOf 194 = .ok (.aload_n 0, 1) := by decide +kernel
theorem dX9_valueOf_195 : decode cX9_valueOf 195 = .ok (.getfield 53, 3) := by decide +kernel
theorem dX9_valueOf_198 : decode cX9_valueOf 198 = .ok (.iload 6, 2) := by decide +kernel
theorem dX9_valueOf_200 : decode cX9_valueOf 200 = .ok (.iaload, 1) := by decide +kernel
theorem dX9_valueOf_201 : decode cX9_valueOf 201 = .ok (.isub, 1) := by decide +kernel
theorem dX9_valueOf_202 : decode cX9_valueOf 202 = .ok (.i2l, 1) := by decide +kernel
theorem dX9_valueOf_203 : decode cX9_valueOf 203 = .ok (.aload_n 0, 1) := by decide +kernel
theorem dX9_valueOf_204 : decode cX9_valueOf 204 = .ok (.getfield 59, 3) := by decide +kernel
theorem dX9_valueOf_207 : decode cX9_valueOf 207 = .ok (.iload_n 3, 1) := by decide +kernel
theorem dX9_valueOf_208 : decode cX9_valueOf 208 = .ok (.iconst 1, 1) := by decide +kernel
theorem dX9_valueOf_209 : decode cX9_valueOf 209 = .ok (.iadd, 1) := by decide +kernel
theorem dX9_valueOf_210 : decode cX9_valueOf 210 = .ok (.iload 4, 2) := by decide +kernel
theorem dX9_valueOf_212 : decode cX9_valueOf 212 = .ok (.aload_n 0, 1) := by decide +kernel
theorem dX9_valueOf_213 : decode cX9_valueOf 213 = .ok (.iload 5, 2) := by decide +kernel
theorem dX9_valueOf_215 : decode cX9_valueOf 215 = .ok (.iload 4, 2) := by decide +kernel
theorem dX9_valueOf_217 : decode cX9_valueOf 217 = .ok (.invokevirtual 204, 3) := by decide +kernel
theorem dX9_valueOf_220 : decode cX9_valueOf 220 = .ok (.invokestatic 207, 3) := by decide +kernel
theorem dX9_valueOf_223 : decode cX9_valueOf 223 = .ok (.laload, 1) := by decide +kernel
theorem dX9_valueOf_224 : decode cX9_valueOf 224 = .ok (.lmul, 1) := by decide +kernel
theorem dX9_valueOf_225 : decode cX9_valueOf 225 = .ok (.ladd, 1) := by decide +kernel
theorem dX9_valueOf_226 : decode cX9_valueOf 226 = .ok (.lastore, 1) := by decide +kernel
theorem dX9_valueOf_227 : decode cX9_valueOf 227 = .ok (.iinc 5 1, 3) := by decide +kernel
theorem dX9_valueOf_230 : decode cX9_valueOf 230 = .ok (.goto (-176), 3) := by decide +kernel
theorem dX9_valueOf_233 : decode cX9_valueOf 233 = .ok (.iinc 4 1, 3) := by decide +kernel
theorem dX9_valueOf_236 : decode cX9_valueOf 236 = .ok (.goto (-194), 3) := by decide +kernel
theorem dX9_valueOf_239 : decode cX9_valueOf 239 = .ok (.iinc 3 (-1), 3) := by decide +kernel
theorem dX9_valueOf_242 : decode cX9_valueOf 242 = .ok (.goto (-207), 3) := by decide +kernel
theorem dX9_valueOf_245 : decode cX9_valueOf 245 = .ok (.aload_n 0, 1) := by decide +kernel
theorem dX9_valueOf_246 : decode cX9_valueOf 246 = .ok (.getfield 59, 3) := by decide +kernel
theorem dX9_valueOf_249 : decode cX9_valueOf 249 = .ok (.iconst 0, 1) := by decide +kernel
theorem dX9_valueOf_250 : decode cX9_valueOf 250 = .ok (.aload_n 0, 1) := by decide +kernel
theorem dX9_valueOf_251 : decode cX9_valueOf 251 = .ok (.invokevirtual 225, 3) := by decide +kernel
theorem dX9_valueOf_254 : decode cX9_valueOf 254 = .ok (.aload_n 0, 1) := by decide +kernel
theorem dX9_valueOf_255 : decode cX9_valueOf 255 = .ok (.getfield 22, 3) := by decide +kernel
theorem dX9_valueOf_258 : decode cX9_valueOf 258 = .ok (.iconst 0, 1) := by decide +kernel
theorem dX9_valueOf_259 : decode cX9_valueOf 259 = .ok (.iaload, 1) := by decide +kernel
theorem dX9_valueOf_260 : decode cX9_valueOf 260 = .ok (.invokestatic 207, 3) := by decide +kernel
theorem dX9_valueOf_263 : decode cX9_valueOf 263 = .ok (.laload, 1) := by decide +kernel
theorem dX9_valueOf_264 : decode cX9_valueOf 264 = .ok (.lreturn, 1) := by decide +kernel
theorem dX9_common_0 : decode cX9_common 0 = .ok (.lload_n 0, 1) := by decide +kernel
theorem dX9_common_1 : decode cX9_common 1 = .ok (.lstore 4, 2) := by decide +kernel
theorem dX9_common_3 : decode cX9_common 3 = .ok (.lload_n 2, 1) := by decide +kernel
theorem dX9_common_4 : decode cX9_common 4 = .ok (.lstore 6, 2) := by decide +kernel
theorem dX9_common_6 : decode cX9_common 6 = .ok (.lload 6, 2) := by decide +kernel
theorem dX9_common_8 : decode cX9_common 8 = .ok (.lconst 0, 1) := by decide +kernel
theorem dX9_common_9 : decode cX9_common 9 = .ok (.lcmp, 1) := by decide +kernel
theorem dX9_common_10 : decode cX9_common 10 = .ok (.ifCond .eq 21, 3) := by decide +kernel
theorem dX9_common_13 : decode cX9_common 13 = .ok (.lload 4, 2) := by decide +kernel
theorem dX9_common_15 : decode cX9_common 15 = .ok (.lload 6, 2) := by decide +kernel
theorem dX9_common_17 : decode cX9_common 17 = .ok (.lrem, 1) := by decide +kernel
theorem dX9_common_18 : decode cX9_common 18 = .ok (.lstore 8, 2) := by decide +kernel
theorem dX9_common_20 : decode cX9_common 20 = .ok (.lload 6, 2) := by decide +kernel
theorem dX9_common_22 : decode cX9_common 22 = .ok (.lstore 4, 2) := by decide +kernel
theorem dX9_common_24 : decode cX9_common 24 = .ok (.lload 8, 2) := by decide +kernel
theorem dX9_common_26 : decode cX9_common 26 = .ok (.lstore 6, 2) := by decide +kernel
theorem dX9_common_28 : decode cX9_common 28 = .ok (.goto (-22), 3) := by decide +kernel
theorem dX9_common_31 : decode cX9_common 31 = .ok (.lload 4, 2) := by decide +kernel
theorem dX9_common_33 : decode cX9_common 33 = .ok (.lreturn, 1) := by decide +kernel
theorem dX9_partOf_0 : decode cX9_partOf 0 = .ok (.lload_n 1, 1) := by decide +kernel
theorem dX9_partOf_1 : decode cX9_partOf 1 = .ok (.lconst 0, 1) := by decide +kernel
theorem dX9_partOf_2 : decode cX9_partOf 2 = .ok (.lcmp, 1) := by decide +kernel
theorem dX9_partOf_3 : decode cX9_partOf 3 = .ok (.ifCond .ne 6, 3) := by decide +kernel
theorem dX9_partOf_6 : decode cX9_partOf 6 = .ok (.iload_n 3, 1) := by decide +kernel
theorem dX9_partOf_7 : decode cX9_partOf 7 = .ok (.i2l, 1) := by decide +kernel
theorem dX9_partOf_8 : decode cX9_partOf 8 = .ok (.lreturn, 1) := by decide +kernel
theorem dX9_partOf_9 : decode cX9_partOf 9 = .ok (.lload_n 1, 1) := by decide +kernel
theorem dX9_partOf_10 : decode cX9_partOf 10 = .ok (.aload_n 0, 1) := by decide +kernel
theorem dX9_partOf_11 : decode cX9_partOf 11 = .ok (.getfield 43, 3) := by decide +kernel
theorem dX9_partOf_14 : decode cX9_partOf 14 = .ok (.aload_n 0, 1) := by decide +kernel
theorem dX9_partOf_15 : decode cX9_partOf 15 = .ok (.getfield 87, 3) := by decide +kernel
theorem dX9_partOf_18 : decode cX9_partOf 18 = .ok (.laload, 1) := by decide +kernel
theorem dX9_partOf_19 : decode cX9_partOf 19 = .ok (.invokestatic 252, 3) := by decide +kernel
theorem dX9_partOf_22 : decode cX9_partOf 22 = .ok (.lstore 4, 2) := by decide +kernel
theorem dX9_partOf_24 : decode cX9_partOf 24 = .ok (.iload_n 3, 1) := by decide +kernel
theorem dX9_partOf_25 : decode cX9_partOf 25 = .ok (.ifCond .ne 10, 3) := by decide +kernel
theorem dX9_partOf_28 : decode cX9_partOf 28 = .ok (.lload_n 1, 1) := by decide +kernel
theorem dX9_partOf_29 : decode cX9_partOf 29 = .ok (.lload 4, 2) := by decide +kernel
theorem dX9_partOf_31 : decode cX9_partOf 31 = .ok (.ldiv, 1) := by decide +kernel
theorem dX9_partOf_32 : decode cX9_partOf 32 = .ok (.goto 15, 3) := by decide +kernel
theorem dX9_partOf_35 : decode cX9_partOf 35 = .ok (.aload_n 0, 1) := by decide +kernel
theorem dX9_partOf_36 : decode cX9_partOf 36 = .ok (.getfield 43, 3) := by decide +kernel
theorem dX9_partOf_39 : decode cX9_partOf 39 = .ok (.aload_n 0, 1) := by decide +kernel
theorem dX9_partOf_40 : decode cX9_partOf 40 = .ok (.getfield 87, 3) := by decide +kernel
theorem dX9_partOf_43 : decode cX9_partOf 43 = .ok (.laload, 1) := by decide +kernel
theorem dX9_partOf_44 : decode cX9_partOf 44 = .ok (.lload 4, 2) := by decide +kernel
theorem dX9_partOf_46 : decode cX9_partOf 46 = .ok (.ldiv, 1) := by decide +kernel
theorem dX9_partOf_47 : decode cX9_partOf 47 = .ok (.lreturn, 1) := by decide +kernel
theorem dX9_worth_0 : decode cX9_worth 0 = .ok (.aload_n 0, 1) := by decide +kernel
theorem dX9_worth_1 : decode cX9_worth 1 = .ok (.iload_n 1, 1) := by decide +kernel
theorem dX9_worth_2 : decode cX9_worth 2 = .ok (.invokevirtual 124, 3) := by decide +kernel
theorem dX9_worth_5 : decode cX9_worth 5 = .ok (.ifCond .eq 25, 3) := by decide +kernel
theorem dX9_worth_8 : decode cX9_worth 8 = .ok (.iload_n 2, 1) := by decide +kernel
theorem dX9_worth_9 : decode cX9_worth 9 = .ok (.i2l, 1) := by decide +kernel
theorem dX9_worth_10 : decode cX9_worth 10 = .ok (.lconst 0, 1) := by decide +kernel
theorem dX9_worth_11 : decode cX9_worth 11 = .ok (.ldc2_w 256, 3) := by decide +kernel
theorem dX9_worth_14 : decode cX9_worth 14 = .ok (.invokestatic 99, 3) := by decide +kernel
theorem dX9_worth_17 : decode cX9_worth 17 = .ok (.ifCond .eq 13, 3) := by decide +kernel
theorem dX9_worth_20 : decode cX9_worth 20 = .ok (.iload_n 3, 1) := by decide +kernel
theorem dX9_worth_21 : decode cX9_worth 21 = .ok (.i2l, 1) := by decide +kernel
theorem dX9_worth_22 : decode cX9_worth 22 = .ok (.lconst 0, 1) := by decide +kernel
theorem dX9_worth_23 : decode cX9_worth 23 = .ok (.lconst 1, 1) := by decide +kernel
theorem dX9_worth_24 : decode cX9_worth 24 = .ok (.invokestatic 99, 3) := by decide +kernel
theorem dX9_worth_27 : decode cX9_worth 27 = .ok (.ifCond .ne 7, 3) := by decide +kernel
theorem dX9_worth_30 : decode cX9_worth 30 = .ok (.ldc2_w 260, 3) := by decide +kernel
theorem dX9_worth_33 : decode cX9_worth 33 = .ok (.lreturn, 1) := by decide +kernel
theorem dX9_worth_34 : decode cX9_worth 34 = .ok (.aload_n 0, 1) := by decide +kernel
theorem dX9_worth_35 : decode cX9_worth 35 = .ok (.iload_n 2, 1) := by decide +kernel
theorem dX9_worth_36 : decode cX9_worth 36 = .ok (.ifCond .ne 11, 3) := by decide +kernel
theorem dX9_worth_39 : decode cX9_worth 39 = .ok (.aload_n 0, 1) := by decide +kernel
theorem dX9_worth_40 : decode cX9_worth 40 = .ok (.iload_n 1, 1) := by decide +kernel
theorem dX9_worth_41 : decode cX9_worth 41 = .ok (.invokevirtual 262, 3) := by decide +kernel
theorem dX9_worth_44 : decode cX9_worth 44 = .ok (.goto 11, 3) := by decide +kernel
theorem dX9_worth_47 : decode cX9_worth 47 = .ok (.aload_n 0, 1) := by decide +kernel
theorem dX9_worth_48 : decode cX9_worth 48 = .ok (.iload_n 2, 1) := by decide +kernel
theorem dX9_worth_49 : decode cX9_worth 49 = .ok (.iconst 1, 1) := by decide +kernel
theorem dX9_worth_50 : decode cX9_worth 50 = .ok (.isub, 1) := by decide +kernel
theorem dX9_worth_51 : decode cX9_worth 51 = .ok (.iload_n 1, 1) := by decide +kernel
theorem dX9_worth_52 : decode cX9_worth 52 = .ok (.invokevirtual 266, 3) := by decide +kernel
theorem dX9_worth_55 : decode cX9_worth 55 = .ok (.iload_n 3, 1) := by decide +kernel
theorem dX9_worth_56 : decode cX9_worth 56 = .ok (.invokevirtual 270, 3) := by decide +kernel
theorem dX9_worth_59 : decode cX9_worth 59 = .ok (.lreturn, 1) := by decide +kernel
theorem dX9_just_0 : decode cX9_just 0 = .ok (.iload_n 1, 1) := by decide +kernel
theorem dX9_just_1 : decode cX9_just 1 = .ok (.i2l, 1) := by decide +kernel
theorem dX9_just_2 : decode cX9_just 2 = .ok (.ldc2_w 274, 3) := by decide +kernel
theorem dX9_just_5 : decode cX9_just 5 = .ok (.aload_n 0, 1) := by decide +kernel
theorem dX9_just_6 : decode cX9_just 6 = .ok (.invokevirtual 225, 3) := by decide +kernel
theorem dX9_just_9 : decode cX9_just 9 = .ok (.i2l, 1) := by decide +kernel
theorem dX9_just_10 : decode cX9_just 10 = .ok (.invokestatic 99, 3) := by decide +kernel
theorem dX9_just_13 : decode cX9_just 13 = .ok (.ifCond .eq 13, 3) := by decide +kernel
theorem dX9_just_16 : decode cX9_just 16 = .ok (.iload_n 2, 1) := by decide +kernel
theorem dX9_just_17 : decode cX9_just 17 = .ok (.i2l, 1) := by decide +kernel
theorem dX9_just_18 : decode cX9_just 18 = .ok (.lconst 0, 1) := by decide +kernel
theorem dX9_just_19 : decode cX9_just 19 = .ok (.lconst 1, 1) := by decide +kernel
theorem dX9_just_20 : decode cX9_just 20 = .ok (.invokestatic 99, 3) := by decide +kernel
theorem dX9_just_23 : decode cX9_just 23 = .ok (.ifCond .ne 7, 3) := by decide +kernel
theorem dX9_just_26 : decode cX9_just 26 = .ok (.ldc2_w 260, 3) := by decide +kernel
theorem dX9_just_29 : decode cX9_just 29 = .ok (.lreturn, 1) := by decide +kernel
theorem dX9_just_30 : decode cX9_just 30 = .ok (.aload_n 0, 1) := by decide +kernel
theorem dX9_just_31 : decode cX9_just 31 = .ok (.iload_n 1, 1) := by decide +kernel
theorem dX9_just_32 : decode cX9_just 32 = .ok (.iconst (-1), 1) := by decide +kernel
theorem dX9_just_33 : decode cX9_just 33 = .ok (.if_icmp .ne 12, 3) := by decide +kernel
theorem dX9_just_36 : decode cX9_just 36 = .ok (.aload_n 0, 1) := by decide +kernel
theorem dX9_just_37 : decode cX9_just 37 = .ok (.iconst 3, 1) := by decide +kernel
theorem dX9_just_38 : decode cX9_just 38 = .ok (.iconst 0, 1) := by decide +kernel
theorem dX9_just_39 : decode cX9_just 39 = .ok (.invokevirtual 266, 3) := by decide +kernel
theorem dX9_just_42 : decode cX9_just 42 = .ok (.goto 9, 3) := by decide +kernel
theorem dX9_just_45 : decode cX9_just 45 = .ok (.aload_n 0, 1) := by decide +kernel
theorem dX9_just_46 : decode cX9_just 46 = .ok (.iconst 2, 1) := by decide +kernel
theorem dX9_just_47 : decode cX9_just 47 = .ok (.iload_n 1, 1) := by decide +kernel
theorem dX9_just_48 : decode cX9_just 48 = .ok (.invokevirtual 266, 3) := by decide +kernel
theorem dX9_just_51 : decode cX9_just 51 = .ok (.iload_n 2, 1) := by decide +kernel
theorem dX9_just_52 : decode cX9_just 52 = .ok (.invokevirtual 270, 3) := by decide +kernel
theorem dX9_just_55 : decode cX9_just 55 = .ok (.lreturn, 1) := by decide +kernel
theorem dX9_aims_0 : decode cX9_aims 0 = .ok (.aload_n 0, 1) := by decide +kernel
theorem dX9_aims_1 : decode cX9_aims 1 = .ok (.iload_n 1, 1) := by decide +kernel
theorem dX9_aims_2 : decode cX9_aims 2 = .ok (.invokevirtual 124, 3) := by decide +kernel
theorem dX9_aims_5 : decode cX9_aims 5 = .ok (.ifCond .eq 41, 3) := by decide +kernel
theorem dX9_aims_8 : decode cX9_aims 8 = .ok (.iload_n 2, 1) := by decide +kernel
theorem dX9_aims_9 : decode cX9_aims 9 = .ok (.i2l, 1) := by decide +kernel
theorem dX9_aims_10 : decode cX9_aims 10 = .ok (.lconst 0, 1) := by decide +kernel
theorem dX9_aims_11 : decode cX9_aims 11 = .ok (.aload_n 0, 1) := by decide +kernel
theorem dX9_aims_12 : decode cX9_aims 12 = .ok (.invokevirtual 225, 3) := by decide +kernel
theorem dX9_aims_15 : decode cX9_aims 15 = .ok (.i2l, 1) := by decide +kernel
theorem dX9_aims_16 : decode cX9_aims 16 = .ok (.invokestatic 99, 3) := by decide +kernel
theorem dX9_aims_19 : decode cX9_aims 19 = .ok (.ifCond .eq 27, 3) := by decide +kernel
theorem dX9_aims_22 : decode cX9_aims 22 = .ok (.iload_n 2, 1) := by decide +kernel
theorem dX9_aims_23 : decode cX9_aims 23 = .ok (.iload_n 1, 1) := by decide +kernel
theorem dX9_aims_24 : decode cX9_aims 24 = .ok (.invokestatic 133, 3) := by decide +kernel
theorem dX9_aims_27 : decode cX9_aims 27 = .ok (.ifCond .eq 19, 3) := by decide +kernel
theorem dX9_aims_30 : decode cX9_aims 30 = .ok (.iload_n 3, 1) := by decide +kernel
theorem dX9_aims_31 : decode cX9_aims 31 = .ok (.i2l, 1) := by decide +kernel
theorem dX9_aims_32 : decode cX9_aims 32 = .ok (.lconst 0, 1) := by decide +kernel
theorem dX9_aims_33 : decode cX9_aims 33 = .ok (.aload_n 0, 1) := by decide +kernel
theorem dX9_aims_34 : decode cX9_aims 34 = .ok (.getfield 87, 3) := by decide +kernel
theorem dX9_aims_37 : decode cX9_aims 37 = .ok (.iconst 1, 1) := by decide +kernel
theorem dX9_aims_38 : decode cX9_aims 38 = .ok (.isub, 1) := by decide +kernel
theorem dX9_aims_39 : decode cX9_aims 39 = .ok (.i2l, 1) := by decide +kernel
theorem dX9_aims_40 : decode cX9_aims 40 = .ok (.invokestatic 99, 3) := by decide +kernel
theorem dX9_aims_43 : decode cX9_aims 43 = .ok (.ifCond .ne 5, 3) := by decide +kernel
theorem dX9_aims_46 : decode cX9_aims 46 = .ok (.iconst (-1), 1) := by decide +kernel
theorem dX9_aims_47 : decode cX9_aims 47 = .ok (.ireturn, 1) := by decide +kernel
theorem dX9_aims_48 : decode cX9_aims 48 = .ok (.aload_n 0, 1) := by decide +kernel
theorem dX9_aims_49 : decode cX9_aims 49 = .ok (.invokevirtual 241, 3) := by decide +kernel
theorem dX9_aims_52 : decode cX9_aims 52 = .ok (.aload_n 0, 1) := by decide +kernel
theorem dX9_aims_53 : decode cX9_aims 53 = .ok (.getfield 50, 3) := by decide +kernel
theorem dX9_aims_56 : decode cX9_aims 56 = .ok (.iload_n 3, 1) := by decide +kernel
theorem dX9_aims_57 : decode cX9_aims 57 = .ok (.iload_n 2, 1) := by decide +kernel
theorem dX9_aims_58 : decode cX9_aims 58 = .ok (.iload_n 1, 1) := by decide +kernel
theorem dX9_aims_59 : decode cX9_aims 59 = .ok (.invokestatic 207, 3) := by decide +kernel
theorem dX9_aims_62 : decode cX9_aims 62 = .ok (.iaload, 1) := by decide +kernel
theorem dX9_aims_63 : decode cX9_aims 63 = .ok (.istore 4, 2) := by decide +kernel
theorem dX9_aims_65 : decode cX9_aims 65 = .ok (.iload 4, 2) := by decide +kernel
theorem dX9_aims_67 : decode cX9_aims 67 = .ok (.bipush 9, 2) := by decide +kernel
theorem dX9_aims_69 : decode cX9_aims 69 = .ok (.if_icmp .ne 8, 3) := by decide +kernel
theorem dX9_aims_72 : decode cX9_aims 72 = .ok (.bipush (-2), 2) := by decide +kernel
theorem dX9_aims_74 : decode cX9_aims 74 = .ok (.goto 5, 3) := by decide +kernel
theorem dX9_aims_77 : decode cX9_aims 77 = .ok (.iload 4, 2) := by decide +kernel
theorem dX9_aims_79 : decode cX9_aims 79 = .ok (.ireturn, 1) := by decide +kernel
theorem dX9_begin_0 : decode cX9_begin 0 = .ok (.aload_n 0, 1) := by decide +kernel
theorem dX9_begin_1 : decode cX9_begin 1 = .ok (.iload_n 1, 1) := by decide +kernel
theorem dX9_begin_2 : decode cX9_begin 2 = .ok (.invokevirtual 124, 3) := by decide +kernel
theorem dX9_begin_5 : decode cX9_begin 5 = .ok (.ifCond .ne 5, 3) := by decide +kernel
theorem dX9_begin_8 : decode cX9_begin 8 = .ok (.iconst (-1), 1) := by decide +kernel
theorem dX9_begin_9 : decode cX9_begin 9 = .ok (.ireturn, 1) := by decide +kernel
theorem dX9_begin_10 : decode cX9_begin 10 = .ok (.aload_n 0, 1) := by decide +kernel
theorem dX9_begin_11 : decode cX9_begin 11 = .ok (.invokevirtual 241, 3) := by decide +kernel
theorem dX9_begin_14 : decode cX9_begin 14 = .ok (.iconst 0, 1) := by decide +kernel
theorem dX9_begin_15 : decode cX9_begin 15 = .ok (.istore_n 2, 1) := by decide +kernel
theorem dX9_begin_16 : decode cX9_begin 16 = .ok (.iconst 1, 1) := by decide +kernel
theorem dX9_begin_17 : decode cX9_begin 17 = .ok (.istore_n 3, 1) := by decide +kernel
theorem dX9_begin_18 : decode cX9_begin 18 = .ok (.iload_n 3, 1) := by decide +kernel
theorem dX9_begin_19 : decode cX9_begin 19 = .ok (.aload_n 0, 1) := by decide +kernel
theorem dX9_begin_20 : decode cX9_begin 20 = .ok (.getfield 96, 3) := by decide +kernel
theorem dX9_begin_23 : decode cX9_begin 23 = .ok (.if_icmp .ge 39, 3) := by decide +kernel
theorem dX9_begin_26 : decode cX9_begin 26 = .ok (.aload_n 0, 1) := by decide +kernel
theorem dX9_begin_27 : decode cX9_begin 27 = .ok (.aload_n 0, 1) := by decide +kernel
theorem dX9_begin_28 : decode cX9_begin 28 = .ok (.invokevirtual 225, 3) := by decide +kernel
theorem dX9_begin_31 : decode cX9_begin 31 = .ok (.iload_n 3, 1) := by decide +kernel
theorem dX9_begin_32 : decode cX9_begin 32 = .ok (.iload_n 1, 1) := by decide +kernel
theorem dX9_begin_33 : decode cX9_begin 33 = .ok (.invokevirtual 244, 3) := by decide +kernel
theorem dX9_begin_36 : decode cX9_begin 36 = .ok (.aload_n 0, 1) := by decide +kernel
theorem dX9_begin_37 : decode cX9_begin 37 = .ok (.aload_n 0, 1) := by decide +kernel
theorem dX9_begin_38 : decode cX9_begin 38 = .ok (.invokevirtual 225, 3) := by decide +kernel
theorem dX9_begin_41 : decode cX9_begin 41 = .ok (.iload_n 2, 1) := by decide +kernel
theorem dX9_begin_42 : decode cX9_begin 42 = .ok (.iload_n 1, 1) := by decide +kernel
theorem dX9_begin_43 : decode cX9_begin 43 = .ok (.invokevirtual 244, 3) := by decide +kernel
theorem dX9_begin_46 : decode cX9_begin 46 = .ok (.lcmp, 1) := by decide +kernel
theorem dX9_begin_47 : decode cX9_begin 47 = .ok (.ifCond .le 7, 3) := by decide +kernel
theorem dX9_begin_50 : decode cX9_begin 50 = .ok (.iload_n 3, 1) := by decide +kernel
theorem dX9_begin_51 : decode cX9_begin 51 = .ok (.goto 4, 3) := by decide +kernel
theorem dX9_begin_54 : decode cX9_begin 54 = .ok (.iload_n 2, 1) := by decide +kernel
theorem dX9_begin_55 : decode cX9_begin 55 = .ok (.istore_n 2, 1) := by decide +kernel
theorem dX9_begin_56 : decode cX9_begin 56 = .ok (.iinc 3 1, 3) := by decide +kernel
theorem dX9_begin_59 : decode cX9_begin 59 = .ok (.goto (-41), 3) := by decide +kernel
theorem dX9_begin_62 : decode cX9_begin 62 = .ok (.iload_n 2, 1) := by decide +kernel
theorem dX9_begin_63 : decode cX9_begin 63 = .ok (.ireturn, 1) := by decide +kernel
theorem dX9_fair_0 : decode cX9_fair 0 = .ok (.aload_n 0, 1) := by decide +kernel
theorem dX9_fair_1 : decode cX9_fair 1 = .ok (.getfield 96, 3) := by decide +kernel
theorem dX9_fair_4 : decode cX9_fair 4 = .ok (.ifCond .ne 6, 3) := by decide +kernel
theorem dX9_fair_7 : decode cX9_fair 7 = .ok (.bipush (-5), 2) := by decide +kernel
theorem dX9_fair_9 : decode cX9_fair 9 = .ok (.ireturn, 1) := by decide +kernel
theorem dX9_fair_10 : decode cX9_fair 10 = .ok (.aload_n 0, 1) := by decide +kernel
theorem dX9_fair_11 : decode cX9_fair 11 = .ok (.invokevirtual 241, 3) := by decide +kernel
theorem dX9_fair_14 : decode cX9_fair 14 = .ok (.iconst (-1), 1) := by decide +kernel
theorem dX9_fair_15 : decode cX9_fair 15 = .ok (.istore_n 1, 1) := by decide +kernel
theorem dX9_fair_16 : decode cX9_fair 16 = .ok (.lconst 0, 1) := by decide +kernel
theorem dX9_fair_17 : decode cX9_fair 17 = .ok (.lstore_n 2, 1) := by decide +kernel
theorem dX9_fair_18 : decode cX9_fair 18 = .ok (.iconst 0, 1) := by decide +kernel
theorem dX9_fair_19 : decode cX9_fair 19 = .ok (.istore 4, 2) := by decide +kernel
theorem dX9_fair_21 : decode cX9_fair 21 = .ok (.iload 4, 2) := by decide +kernel
theorem dX9_fair_23 : decode cX9_fair 23 = .ok (.aload_n 0, 1) := by decide +kernel
theorem dX9_fair_24 : decode cX9_fair 24 = .ok (.getfield 96, 3) := by decide +kernel
theorem dX9_fair_27 : decode cX9_fair 27 = .ok (.if_icmp .ge 115, 3) := by decide +kernel
theorem dX9_fair_30 : decode cX9_fair 30 = .ok (.aload_n 0, 1) := by decide +kernel
theorem dX9_fair_31 : decode cX9_fair 31 = .ok (.aload_n 0, 1) := by decide +kernel
theorem dX9_fair_32 : decode cX9_fair 32 = .ok (.invokevirtual 225, 3) := by decide +kernel
theorem dX9_fair_35 : decode cX9_fair 35 = .ok (.iload 4, 2) := by decide +kernel
theorem dX9_fair_37 : decode cX9_fair 37 = .ok (.iconst 0, 1) := by decide +kernel
theorem dX9_fair_38 : decode cX9_fair 38 = .ok (.invokevirtual 244, 3) := by decide +kernel
theorem dX9_fair_41 : decode cX9_fair 41 = .ok (.lstore 5, 2) := by decide +kernel
theorem dX9_fair_43 : decode cX9_fair 43 = .ok (.lload 5, 2) := by decide +kernel
theorem dX9_fair_45 : decode cX9_fair 45 = .ok (.lstore 7, 2) := by decide +kernel
theorem dX9_fair_47 : decode cX9_fair 47 = .ok (.iconst 1, 1) := by decide +kernel
theorem dX9_fair_48 : decode cX9_fair 48 = .ok (.istore 9, 2) := by decide +kernel
theorem dX9_fair_50 : decode cX9_fair 50 = .ok (.iload 9, 2) := by decide +kernel
theorem dX9_fair_52 : decode cX9_fair 52 = .ok (.aload_n 0, 1) := by decide +kernel
theorem dX9_fair_53 : decode cX9_fair 53 = .ok (.getfield 96, 3) := by decide +kernel
theorem dX9_fair_56 : decode cX9_fair 56 = .ok (.if_icmp .ge 57, 3) := by decide +kernel
theorem dX9_fair_59 : decode cX9_fair 59 = .ok (.aload_n 0, 1) := by decide +kernel
theorem dX9_fair_60 : decode cX9_fair 60 = .ok (.aload_n 0, 1) := by decide +kernel
theorem dX9_fair_61 : decode cX9_fair 61 = .ok (.invokevirtual 225, 3) := by decide +kernel
theorem dX9_fair_64 : decode cX9_fair 64 = .ok (.iload 4, 2) := by decide +kernel
theorem dX9_fair_66 : decode cX9_fair 66 = .ok (.iload 9, 2) := by decide +kernel
theorem dX9_fair_68 : decode cX9_fair 68 = .ok (.invokevirtual 244, 3) := by decide +kernel
theorem dX9_fair_71 : decode cX9_fair 71 = .ok (.lstore 10, 2) := by decide +kernel
theorem dX9_fair_73 : decode cX9_fair 73 = .ok (.lload 10, 2) := by decide +kernel
theorem dX9_fair_75 : decode cX9_fair 75 = .ok (.lload 5, 2) := by decide +kernel
theorem dX9_fair_77 : decode cX9_fair 77 = .ok (.lcmp, 1) := by decide +kernel
theorem dX9_fair_78 : decode cX9_fair 78 = .ok (.ifCond .ge 8, 3) := by decide +kernel
theorem dX9_fair_81 : decode cX9_fair 81 = .ok (.lload 10, 2) := by decide +kernel
theorem dX9_fair_83 : decode cX9_fair 83 = .ok (.goto 5, 3) := by decide +kernel
theorem dX9_fair_86 : decode cX9_fair 86 = .ok (.lload 5, 2) := by decide +kernel
theorem dX9_fair_88 : decode cX9_fair 88 = .ok (.lstore 5, 2) := by decide +kernel
theorem dX9_fair_90 : decode cX9_fair 90 = .ok (.lload 10, 2) := by decide +kernel
theorem dX9_fair_92 : decode cX9_fair 92 = .ok (.lload 7, 2) := by decide +kernel
theorem dX9_fair_94 : decode cX9_fair 94 = .ok (.lcmp, 1) := by decide +kernel
theorem dX9_fair_95 : decode cX9_fair 95 = .ok (.ifCond .le 8, 3) := by decide +kernel
theorem dX9_fair_98 : decode cX9_fair 98 = .ok (.lload 10, 2) := by decide +kernel
theorem dX9_fair_100 : decode cX9_fair 100 = .ok (.goto 5, 3) := by decide +kernel
theorem dX9_fair_103 : decode cX9_fair 103 = .ok (.lload 7, 2) := by decide +kernel
theorem dX9_fair_105 : decode cX9_fair 105 = .ok (.lstore 7, 2) := by decide +kernel
theorem dX9_fair_107 : decode cX9_fair 107 = .ok (.iinc 9 1, 3) := by decide +kernel
theorem dX9_fair_110 : decode cX9_fair 110 = .ok (.goto (-60), 3) := by decide +kernel
theorem dX9_fair_113 : decode cX9_fair 113 = .ok (.iload_n 1, 1) := by decide +kernel
theorem dX9_fair_114 : decode cX9_fair 114 = .ok (.ifCond .lt 13, 3) := by decide +kernel
theorem dX9_fair_117 : decode cX9_fair 117 = .ok (.lload 7, 2) := by decide +kernel
theorem dX9_fair_119 : decode cX9_fair 119 = .ok (.lload 5, 2) := by decide +kernel
theorem dX9_fair_121 : decode cX9_fair 121 = .ok (.lsub, 1) := by decide +kernel
theorem dX9_fair_122 : decode cX9_fair 122 = .ok (.lload_n 2, 1) := by decide +kernel
theorem dX9_fair_123 : decode cX9_fair 123 = .ok (.lcmp, 1) := by decide +kernel
theorem dX9_fair_124 : decode cX9_fair 124 = .ok (.ifCond .ge 12, 3) := by decide +kernel
theorem dX9_fair_127 : decode cX9_fair 127 = .ok (.iload 4, 2) := by decide +kernel
theorem dX9_fair_129 : decode cX9_fair 129 = .ok (.istore_n 1, 1) := by decide +kernel
theorem dX9_fair_130 : decode cX9_fair 130 = .ok (.lload 7, 2) := by decide +kernel
theorem dX9_fair_132 : decode cX9_fair 132 = .ok (.lload 5, 2) := by decide +kernel
theorem dX9_fair_134 : decode cX9_fair 134 = .ok (.lsub, 1) := by decide +kernel
theorem dX9_fair_135 : decode cX9_fair 135 = .ok (.lstore_n 2, 1) := by decide +kernel
theorem dX9_fair_136 : decode cX9_fair 136 = .ok (.iinc 4 1, 3) := by decide +kernel
theorem dX9_fair_139 : decode cX9_fair 139 = .ok (.goto (-118), 3) := by decide +kernel
theorem dX9_fair_142 : decode cX9_fair 142 = .ok (.iload_n 1, 1) := by decide +kernel
theorem dX9_fair_143 : decode cX9_fair 143 = .ok (.ireturn, 1) := by decide +kernel
theorem dX9_wouldOf_0 : decode cX9_wouldOf 0 = .ok (.aload_n 0, 1) := by decide +kernel
theorem dX9_wouldOf_1 : decode cX9_wouldOf 1 = .ok (.getfield 9, 3) := by decide +kernel
theorem dX9_wouldOf_4 : decode cX9_wouldOf 4 = .ok (.iconst 4, 1) := by decide +kernel
theorem dX9_wouldOf_5 : decode cX9_wouldOf 5 = .ok (.iload_n 1, 1) := by decide +kernel
theorem dX9_wouldOf_6 : decode cX9_wouldOf 6 = .ok (.iadd, 1) := by decide +kernel
theorem dX9_wouldOf_7 : decode cX9_wouldOf 7 = .ok (.iaload, 1) := by decide +kernel
theorem dX9_wouldOf_8 : decode cX9_wouldOf 8 = .ok (.istore_n 2, 1) := by decide +kernel
theorem dX9_wouldOf_9 : decode cX9_wouldOf 9 = .ok (.aload_n 0, 1) := by decide +kernel
theorem dX9_wouldOf_10 : decode cX9_wouldOf 10 = .ok (.iload_n 1, 1) := by decide +kernel
theorem dX9_wouldOf_11 : decode cX9_wouldOf 11 = .ok (.invokevirtual 262, 3) := by decide +kernel
theorem dX9_wouldOf_14 : decode cX9_wouldOf 14 = .ok (.lstore_n 3, 1) := by decide +kernel
theorem dX9_wouldOf_15 : decode cX9_wouldOf 15 = .ok (.iload_n 2, 1) := by decide +kernel
theorem dX9_wouldOf_16 : decode cX9_wouldOf 16 = .ok (.istore 5, 2) := by decide +kernel
theorem dX9_wouldOf_18 : decode cX9_wouldOf 18 = .ok (.iconst 0, 1) := by decide +kernel
theorem dX9_wouldOf_19 : decode cX9_wouldOf 19 = .ok (.istore 6, 2) := by decide +kernel
theorem dX9_wouldOf_21 : decode cX9_wouldOf 21 = .ok (.iload 6, 2) := by decide +kernel
theorem dX9_wouldOf_23 : decode cX9_wouldOf 23 = .ok (.bipush 6, 2) := by decide +kernel
theorem dX9_wouldOf_25 : decode cX9_wouldOf 25 = .ok (.if_icmp .ge 56, 3) := by decide +kernel
theorem dX9_wouldOf_28 : decode cX9_wouldOf 28 = .ok (.aload_n 0, 1) := by decide +kernel
theorem dX9_wouldOf_29 : decode cX9_wouldOf 29 = .ok (.getfield 9, 3) := by decide +kernel
theorem dX9_wouldOf_32 : decode cX9_wouldOf 32 = .ok (.iconst 4, 1) := by decide +kernel
theorem dX9_wouldOf_33 : decode cX9_wouldOf 33 = .ok (.iload_n 1, 1) := by decide +kernel
theorem dX9_wouldOf_34 : decode cX9_wouldOf 34 = .ok (.iadd, 1) := by decide +kernel
theorem dX9_wouldOf_35 : decode cX9_wouldOf 35 = .ok (.iload 6, 2) := by decide +kernel
theorem dX9_wouldOf_37 : decode cX9_wouldOf 37 = .ok (.iastore, 1) := by decide +kernel
theorem dX9_wouldOf_38 : decode cX9_wouldOf 38 = .ok (.aload_n 0, 1) := by decide +kernel
theorem dX9_wouldOf_39 : decode cX9_wouldOf 39 = .ok (.iload_n 1, 1) := by decide +kernel
theorem dX9_wouldOf_40 : decode cX9_wouldOf 40 = .ok (.invokevirtual 262, 3) := by decide +kernel
theorem dX9_wouldOf_43 : decode cX9_wouldOf 43 = .ok (.lstore 7, 2) := by decide +kernel
theorem dX9_wouldOf_45 : decode cX9_wouldOf 45 = .ok (.lload 7, 2) := by decide +kernel
theorem dX9_wouldOf_47 : decode cX9_wouldOf 47 = .ok (.lload_n 3, 1) := by decide +kernel
theorem dX9_wouldOf_48 : decode cX9_wouldOf 48 = .ok (.lcmp, 1) := by decide +kernel
theorem dX9_wouldOf_49 : decode cX9_wouldOf 49 = .ok (.ifCond .le 8, 3) := by decide +kernel
theorem dX9_wouldOf_52 : decode cX9_wouldOf 52 = .ok (.iload 6, 2) := by decide +kernel
theorem dX9_wouldOf_54 : decode cX9_wouldOf 54 = .ok (.goto 5, 3) := by decide +kernel
theorem dX9_wouldOf_57 : decode cX9_wouldOf 57 = .ok (.iload 5, 2) := by decide +kernel
theorem dX9_wouldOf_59 : decode cX9_wouldOf 59 = .ok (.istore 5, 2) := by decide +kernel
theorem dX9_wouldOf_61 : decode cX9_wouldOf 61 = .ok (.lload 7, 2) := by decide +kernel
theorem dX9_wouldOf_63 : decode cX9_wouldOf 63 = .ok (.lload_n 3, 1) := by decide +kernel
theorem dX9_wouldOf_64 : decode cX9_wouldOf 64 = .ok (.lcmp, 1) := by decide +kernel
theorem dX9_wouldOf_65 : decode cX9_wouldOf 65 = .ok (.ifCond .le 8, 3) := by decide +kernel
theorem dX9_wouldOf_68 : decode cX9_wouldOf 68 = .ok (.lload 7, 2) := by decide +kernel
theorem dX9_wouldOf_70 : decode cX9_wouldOf 70 = .ok (.goto 4, 3) := by decide +kernel
theorem dX9_wouldOf_73 : decode cX9_wouldOf 73 = .ok (.lload_n 3, 1) := by decide +kernel
theorem dX9_wouldOf_74 : decode cX9_wouldOf 74 = .ok (.lstore_n 3, 1) := by decide +kernel
theorem dX9_wouldOf_75 : decode cX9_wouldOf 75 = .ok (.iinc 6 1, 3) := by decide +kernel
theorem dX9_wouldOf_78 : decode cX9_wouldOf 78 = .ok (.goto (-57), 3) := by decide +kernel
theorem dX9_wouldOf_81 : decode cX9_wouldOf 81 = .ok (.aload_n 0, 1) := by decide +kernel
theorem dX9_wouldOf_82 : decode cX9_wouldOf 82 = .ok (.getfield 9, 3) := by decide +kernel
theorem dX9_wouldOf_85 : decode cX9_wouldOf 85 = .ok (.iconst 4, 1) := by decide +kernel
theorem dX9_wouldOf_86 : decode cX9_wouldOf 86 = .ok (.iload_n 1, 1) := by decide +kernel
theorem dX9_wouldOf_87 : decode cX9_wouldOf 87 = .ok (.iadd, 1) := by decide +kernel
theorem dX9_wouldOf_88 : decode cX9_wouldOf 88 = .ok (.iload_n 2, 1) := by decide +kernel
theorem dX9_wouldOf_89 : decode cX9_wouldOf 89 = .ok (.iastore, 1) := by decide +kernel
theorem dX9_wouldOf_90 : decode cX9_wouldOf 90 = .ok (.iload 5, 2) := by decide +kernel
theorem dX9_wouldOf_92 : decode cX9_wouldOf 92 = .ok (.ireturn, 1) := by decide +kernel
theorem dX9_would_0 : decode cX9_would 0 = .ok (.aload_n 0, 1) := by decide +kernel
theorem dX9_would_1 : decode cX9_would 1 = .ok (.iload_n 1, 1) := by decide +kernel
theorem dX9_would_2 : decode cX9_would 2 = .ok (.invokevirtual 124, 3) := by decide +kernel
theorem dX9_would_5 : decode cX9_would 5 = .ok (.ifCond .eq 11, 3) := by decide +kernel
theorem dX9_would_8 : decode cX9_would 8 = .ok (.aload_n 0, 1) := by decide +kernel
theorem dX9_would_9 : decode cX9_would 9 = .ok (.iload_n 1, 1) := by decide +kernel
theorem dX9_would_10 : decode cX9_would 10 = .ok (.invokevirtual 276, 3) := by decide +kernel
theorem dX9_would_13 : decode cX9_would 13 = .ok (.goto 4, 3) := by decide +kernel
theorem dX9_would_16 : decode cX9_would 16 = .ok (.iconst (-1), 1) := by decide +kernel
theorem dX9_would_17 : decode cX9_would 17 = .ok (.ireturn, 1) := by decide +kernel
theorem dX9_rest_0 : decode cX9_rest 0 = .ok (.iconst 0, 1) := by decide +kernel
theorem dX9_rest_1 : decode cX9_rest 1 = .ok (.istore_n 1, 1) := by decide +kernel
theorem dX9_rest_2 : decode cX9_rest 2 = .ok (.iload_n 1, 1) := by decide +kernel
theorem dX9_rest_3 : decode cX9_rest 3 = .ok (.aload_n 0, 1) := by decide +kernel
theorem dX9_rest_4 : decode cX9_rest 4 = .ok (.getfield 96, 3) := by decide +kernel
theorem dX9_rest_7 : decode cX9_rest 7 = .ok (.if_icmp .ge 27, 3) := by decide +kernel
theorem dX9_rest_10 : decode cX9_rest 10 = .ok (.aload_n 0, 1) := by decide +kernel
theorem dX9_rest_11 : decode cX9_rest 11 = .ok (.iload_n 1, 1) := by decide +kernel
theorem dX9_rest_12 : decode cX9_rest 12 = .ok (.invokevirtual 276, 3) := by decide +kernel
theorem dX9_rest_15 : decode cX9_rest 15 = .ok (.aload_n 0, 1) := by decide +kernel
theorem dX9_rest_16 : decode cX9_rest 16 = .ok (.getfield 9, 3) := by decide +kernel
theorem dX9_rest_19 : decode cX9_rest 19 = .ok (.iconst 4, 1) := by decide +kernel
theorem dX9_rest_20 : decode cX9_rest 20 = .ok (.iload_n 1, 1) := by decide +kernel
theorem dX9_rest_21 : decode cX9_rest 21 = .ok (.iadd, 1) := by decide +kernel
theorem dX9_rest_22 : decode cX9_rest 22 = .ok (.iaload, 1) := by decide +kernel
theorem dX9_rest_23 : decode cX9_rest 23 = .ok (.if_icmp .eq 5, 3) := by decide +kernel
theorem dX9_rest_26 : decode cX9_rest 26 = .ok (.iload_n 1, 1) := by decide +kernel
theorem dX9_rest_27 : decode cX9_rest 27 = .ok (.ireturn, 1) := by decide +kernel
theorem dX9_rest_28 : decode cX9_rest 28 = .ok (.iinc 1 1, 3) := by decide +kernel
theorem dX9_rest_31 : decode cX9_rest 31 = .ok (.goto (-29), 3) := by decide +kernel
theorem dX9_rest_34 : decode cX9_rest 34 = .ok (.bipush (-2), 2) := by decide +kernel
theorem dX9_rest_36 : decode cX9_rest 36 = .ok (.ireturn, 1) := by decide +kernel
theorem dX9_settle_0 : decode cX9_settle 0 = .ok (.iload_n 1, 1) := by decide +kernel
theorem dX9_settle_1 : decode cX9_settle 1 = .ok (.iconst (-1), 1) := by decide +kernel
theorem dX9_settle_2 : decode cX9_settle 2 = .ok (.if_icmp .eq 13, 3) := by decide +kernel
theorem dX9_settle_5 : decode cX9_settle 5 = .ok (.aload_n 0, 1) := by decide +kernel
theorem dX9_settle_6 : decode cX9_settle 6 = .ok (.iload_n 1, 1) := by decide +kernel
theorem dX9_settle_7 : decode cX9_settle 7 = .ok (.invokevirtual 124, 3) := by decide +kernel
theorem dX9_settle_10 : decode cX9_settle 10 = .ok (.ifCond .ne 5, 3) := by decide +kernel
theorem dX9_settle_13 : decode cX9_settle 13 = .ok (.iconst (-1), 1) := by decide +kernel
theorem dX9_settle_14 : decode cX9_settle 14 = .ok (.ireturn, 1) := by decide +kernel
theorem dX9_settle_15 : decode cX9_settle 15 = .ok (.iconst 0, 1) := by decide +kernel
theorem dX9_settle_16 : decode cX9_settle 16 = .ok (.istore_n 2, 1) := by decide +kernel
theorem dX9_settle_17 : decode cX9_settle 17 = .ok (.iload_n 2, 1) := by decide +kernel
theorem dX9_settle_18 : decode cX9_settle 18 = .ok (.aload_n 0, 1) := by decide +kernel
theorem dX9_settle_19 : decode cX9_settle 19 = .ok (.getfield 96, 3) := by decide +kernel
theorem dX9_settle_22 : decode cX9_settle 22 = .ok (.if_icmp .ge 23, 3) := by decide +kernel
theorem dX9_settle_25 : decode cX9_settle 25 = .ok (.aload_n 0, 1) := by decide +kernel
theorem dX9_settle_26 : decode cX9_settle 26 = .ok (.getfield 62, 3) := by decide +kernel
theorem dX9_settle_29 : decode cX9_settle 29 = .ok (.iload_n 2, 1) := by decide +kernel
theorem dX9_settle_30 : decode cX9_settle 30 = .ok (.aload_n 0, 1) := by decide +kernel
theorem dX9_settle_31 : decode cX9_settle 31 = .ok (.getfield 9, 3) := by decide +kernel
theorem dX9_settle_34 : decode cX9_settle 34 = .ok (.iconst 4, 1) := by decide +kernel
theorem dX9_settle_35 : decode cX9_settle 35 = .ok (.iload_n 2, 1) := by decide +kernel
theorem dX9_settle_36 : decode cX9_settle 36 = .ok (.iadd, 1) := by decide +kernel
theorem dX9_settle_37 : decode cX9_settle 37 = .ok (.iaload, 1) := by decide +kernel
theorem dX9_settle_38 : decode cX9_settle 38 = .ok (.iastore, 1) := by decide +kernel
theorem dX9_settle_39 : decode cX9_settle 39 = .ok (.iinc 2 1, 3) := by decide +kernel
theorem dX9_settle_42 : decode cX9_settle 42 = .ok (.goto (-25), 3) := by decide +kernel
theorem dX9_settle_45 : decode cX9_settle 45 = .ok (.iconst 0, 1) := by decide +kernel
theorem dX9_settle_46 : decode cX9_settle 46 = .ok (.istore_n 2, 1) := by decide +kernel
theorem dX9_settle_47 : decode cX9_settle 47 = .ok (.aload_n 0, 1) := by decide +kernel
theorem dX9_settle_48 : decode cX9_settle 48 = .ok (.invokevirtual 279, 3) := by decide +kernel
theorem dX9_settle_51 : decode cX9_settle 51 = .ok (.istore_n 3, 1) := by decide +kernel
theorem dX9_settle_52 : decode cX9_settle 52 = .ok (.iload_n 3, 1) := by decide +kernel
theorem dX9_settle_53 : decode cX9_settle 53 = .ok (.ifCond .lt 33, 3) := by decide +kernel
theorem dX9_settle_56 : decode cX9_settle 56 = .ok (.iload_n 2, 1) := by decide +kernel
theorem dX9_settle_57 : decode cX9_settle 57 = .ok (.bipush 8, 2) := by decide +kernel
theorem dX9_settle_59 : decode cX9_settle 59 = .ok (.if_icmp .ge 27, 3) := by decide +kernel
theorem dX9_settle_62 : decode cX9_settle 62 = .ok (.aload_n 0, 1) := by decide +kernel
theorem dX9_settle_63 : decode cX9_settle 63 = .ok (.getfield 9, 3) := by decide +kernel
theorem dX9_settle_66 : decode cX9_settle 66 = .ok (.iconst 4, 1) := by decide +kernel
theorem dX9_settle_67 : decode cX9_settle 67 = .ok (.iload_n 3, 1) := by decide +kernel
theorem dX9_settle_68 : decode cX9_settle 68 = .ok (.iadd, 1) := by decide +kernel
theorem dX9_settle_69 : decode cX9_settle 69 = .ok (.aload_n 0, 1) := by decide +kernel
theorem dX9_settle_70 : decode cX9_settle 70 = .ok (.iload_n 3, 1) := by decide +kernel
theorem dX9_settle_71 : decode cX9_settle 71 = .ok (.invokevirtual 276, 3) := by decide +kernel
theorem dX9_settle_74 : decode cX9_settle 74 = .ok (.iastore, 1) := by decide +kernel
theorem dX9_settle_75 : decode cX9_settle 75 = .ok (.iinc 2 1, 3) := by decide +kernel
theorem dX9_settle_78 : decode cX9_settle 78 = .ok (.aload_n 0, 1) := by decide +kernel
theorem dX9_settle_79 : decode cX9_settle 79 = .ok (.invokevirtual 279, 3) := by decide +kernel
theorem dX9_settle_82 : decode cX9_settle 82 = .ok (.istore_n 3, 1) := by decide +kernel
theorem dX9_settle_83 : decode cX9_settle 83 = .ok (.goto (-31), 3) := by decide +kernel
theorem dX9_settle_86 : decode cX9_settle 86 = .ok (.iload_n 1, 1) := by decide +kernel
theorem dX9_settle_87 : decode cX9_settle 87 = .ok (.iconst (-1), 1) := by decide +kernel
theorem dX9_settle_88 : decode cX9_settle 88 = .ok (.if_icmp .ne 7, 3) := by decide +kernel
theorem dX9_settle_91 : decode cX9_settle 91 = .ok (.iload_n 2, 1) := by decide +kernel
theorem dX9_settle_92 : decode cX9_settle 92 = .ok (.goto 11, 3) := by decide +kernel
theorem dX9_settle_95 : decode cX9_settle 95 = .ok (.aload_n 0, 1) := by decide +kernel
theorem dX9_settle_96 : decode cX9_settle 96 = .ok (.getfield 9, 3) := by decide +kernel
theorem dX9_settle_99 : decode cX9_settle 99 = .ok (.iconst 4, 1) := by decide +kernel
theorem dX9_settle_100 : decode cX9_settle 100 = .ok (.iload_n 1, 1) := by decide +kernel
theorem dX9_settle_101 : decode cX9_settle 101 = .ok (.iadd, 1) := by decide +kernel
theorem dX9_settle_102 : decode cX9_settle 102 = .ok (.iaload, 1) := by decide +kernel
theorem dX9_settle_103 : decode cX9_settle 103 = .ok (.istore 4, 2) := by decide +kernel
theorem dX9_settle_105 : decode cX9_settle 105 = .ok (.iconst 0, 1) := by decide +kernel
theorem dX9_settle_106 : decode cX9_settle 106 = .ok (.istore 5, 2) := by decide +kernel
theorem dX9_settle_108 : decode cX9_settle 108 = .ok (.iload 5, 2) := by decide +kernel
theorem dX9_settle_110 : decode cX9_settle 110 = .ok (.aload_n 0, 1) := by decide +kernel
theorem dX9_settle_111 : decode cX9_settle 111 = .ok (.getfield 96, 3) := by decide +kernel
theorem dX9_settle_114 : decode cX9_settle 114 = .ok (.if_icmp .ge 25, 3) := by decide +kernel
theorem dX9_settle_117 : decode cX9_settle 117 = .ok (.aload_n 0, 1) := by decide +kernel
theorem dX9_settle_118 : decode cX9_settle 118 = .ok (.getfield 9, 3) := by decide +kernel
theorem dX9_settle_121 : decode cX9_settle 121 = .ok (.iconst 4, 1) := by decide +kernel
theorem dX9_settle_122 : decode cX9_settle 122 = .ok (.iload 5, 2) := by decide +kernel
theorem dX9_settle_124 : decode cX9_settle 124 = .ok (.iadd, 1) := by decide +kernel
theorem dX9_settle_125 : decode cX9_settle 125 = .ok (.aload_n 0, 1) := by decide +kernel
theorem dX9_settle_126 : decode cX9_settle 126 = .ok (.getfield 62, 3) := by decide +kernel
theorem dX9_settle_129 : decode cX9_settle 129 = .ok (.iload 5, 2) := by decide +kernel
theorem dX9_settle_131 : decode cX9_settle 131 = .ok (.iaload, 1) := by decide +kernel
theorem dX9_settle_132 : decode cX9_settle 132 = .ok (.iastore, 1) := by decide +kernel
theorem dX9_settle_133 : decode cX9_settle 133 = .ok (.iinc 5 1, 3) := by decide +kernel
theorem dX9_settle_136 : decode cX9_settle 136 = .ok (.goto (-28), 3) := by decide +kernel
theorem dX9_settle_139 : decode cX9_settle 139 = .ok (.iload_n 3, 1) := by decide +kernel
theorem dX9_settle_140 : decode cX9_settle 140 = .ok (.ifCond .lt 8, 3) := by decide +kernel
theorem dX9_settle_143 : decode cX9_settle 143 = .ok (.bipush (-2), 2) := by decide +kernel
theorem dX9_settle_145 : decode cX9_settle 145 = .ok (.goto 5, 3) := by decide +kernel
theorem dX9_settle_148 : decode cX9_settle 148 = .ok (.iload 4, 2) := by decide +kernel
theorem dX9_settle_150 : decode cX9_settle 150 = .ok (.ireturn, 1) := by decide +kernel
theorem dX9_even_0 : decode cX9_even 0 = .ok (.aload_n 0, 1) := by decide +kernel
theorem dX9_even_1 : decode cX9_even 1 = .ok (.iload_n 1, 1) := by decide +kernel
theorem dX9_even_2 : decode cX9_even 2 = .ok (.invokevirtual 124, 3) := by decide +kernel
theorem dX9_even_5 : decode cX9_even 5 = .ok (.ifCond .ne 5, 3) := by decide +kernel
theorem dX9_even_8 : decode cX9_even 8 = .ok (.iconst (-1), 1) := by decide +kernel
theorem dX9_even_9 : decode cX9_even 9 = .ok (.ireturn, 1) := by decide +kernel
theorem dX9_even_10 : decode cX9_even 10 = .ok (.aload_n 0, 1) := by decide +kernel
theorem dX9_even_11 : decode cX9_even 11 = .ok (.getfield 9, 3) := by decide +kernel
theorem dX9_even_14 : decode cX9_even 14 = .ok (.iload_n 1, 1) := by decide +kernel
theorem dX9_even_15 : decode cX9_even 15 = .ok (.iaload, 1) := by decide +kernel
theorem dX9_even_16 : decode cX9_even 16 = .ok (.istore_n 2, 1) := by decide +kernel
theorem dX9_even_17 : decode cX9_even 17 = .ok (.iconst (-1), 1) := by decide +kernel
theorem dX9_even_18 : decode cX9_even 18 = .ok (.istore_n 3, 1) := by decide +kernel
theorem dX9_even_19 : decode cX9_even 19 = .ok (.lconst 0, 1) := by decide +kernel
theorem dX9_even_20 : decode cX9_even 20 = .ok (.lstore 4, 2) := by decide +kernel
theorem dX9_even_22 : decode cX9_even 22 = .ok (.iconst 0, 1) := by decide +kernel
theorem dX9_even_23 : decode cX9_even 23 = .ok (.istore 6, 2) := by decide +kernel
theorem dX9_even_25 : decode cX9_even 25 = .ok (.iload 6, 2) := by decide +kernel
theorem dX9_even_27 : decode cX9_even 27 = .ok (.bipush 12, 2) := by decide +kernel
theorem dX9_even_29 : decode cX9_even 29 = .ok (.if_icmp .gt 109, 3) := by decide +kernel
theorem dX9_even_32 : decode cX9_even 32 = .ok (.aload_n 0, 1) := by decide +kernel
theorem dX9_even_33 : decode cX9_even 33 = .ok (.getfield 9, 3) := by decide +kernel
theorem dX9_even_36 : decode cX9_even 36 = .ok (.iload_n 1, 1) := by decide +kernel
theorem dX9_even_37 : decode cX9_even 37 = .ok (.iload 6, 2) := by decide +kernel
theorem dX9_even_39 : decode cX9_even 39 = .ok (.iastore, 1) := by decide +kernel
theorem dX9_even_40 : decode cX9_even 40 = .ok (.aload_n 0, 1) := by decide +kernel
theorem dX9_even_41 : decode cX9_even 41 = .ok (.invokevirtual 241, 3) := by decide +kernel
theorem dX9_even_44 : decode cX9_even 44 = .ok (.aload_n 0, 1) := by decide +kernel
theorem dX9_even_45 : decode cX9_even 45 = .ok (.getfield 96, 3) := by decide +kernel
theorem dX9_even_48 : decode cX9_even 48 = .ok (.i2l, 1) := by decide +kernel
theorem dX9_even_49 : decode cX9_even 49 = .ok (.aload_n 0, 1) := by decide +kernel
theorem dX9_even_50 : decode cX9_even 50 = .ok (.aload_n 0, 1) := by decide +kernel
theorem dX9_even_51 : decode cX9_even 51 = .ok (.invokevirtual 225, 3) := by decide +kernel
theorem dX9_even_54 : decode cX9_even 54 = .ok (.iconst 0, 1) := by decide +kernel
theorem dX9_even_55 : decode cX9_even 55 = .ok (.iload_n 1, 1) := by decide +kernel
theorem dX9_even_56 : decode cX9_even 56 = .ok (.invokevirtual 244, 3) := by decide +kernel
theorem dX9_even_59 : decode cX9_even 59 = .ok (.lmul, 1) := by decide +kernel
theorem dX9_even_60 : decode cX9_even 60 = .ok (.lstore 7, 2) := by decide +kernel
theorem dX9_even_62 : decode cX9_even 62 = .ok (.iconst 0, 1) := by decide +kernel
theorem dX9_even_63 : decode cX9_even 63 = .ok (.istore 9, 2) := by decide +kernel
theorem dX9_even_65 : decode cX9_even 65 = .ok (.iload 9, 2) := by decide +kernel
theorem dX9_even_67 : decode cX9_even 67 = .ok (.aload_n 0, 1) := by decide +kernel
theorem dX9_even_68 : decode cX9_even 68 = .ok (.getfield 96, 3) := by decide +kernel
theorem dX9_even_71 : decode cX9_even 71 = .ok (.if_icmp .ge 25, 3) := by decide +kernel
theorem dX9_even_74 : decode cX9_even 74 = .ok (.lload 7, 2) := by decide +kernel
theorem dX9_even_76 : decode cX9_even 76 = .ok (.aload_n 0, 1) := by decide +kernel
theorem dX9_even_77 : decode cX9_even 77 = .ok (.aload_n 0, 1) := by decide +kernel
theorem dX9_even_78 : decode cX9_even 78 = .ok (.invokevirtual 225, 3) := by decide +kernel
theorem dX9_even_81 : decode cX9_even 81 = .ok (.iconst 0, 1) := by decide +kernel
theorem dX9_even_82 : decode cX9_even 82 = .ok (.iload 9, 2) := by decide +kernel
theorem dX9_even_84 : decode cX9_even 84 = .ok (.invokevirtual 244, 3) := by decide +kernel
theorem dX9_even_87 : decode cX9_even 87 = .ok (.lsub, 1) := by decide +kernel
theorem dX9_even_88 : decode cX9_even 88 = .ok (.lstore 7, 2) := by decide +kernel
theorem dX9_even_90 : decode cX9_even 90 = .ok (.iinc 9 1, 3) := by decide +kernel
theorem dX9_even_93 : decode cX9_even 93 = .ok (.goto (-28), 3) := by decide +kernel
theorem dX9_even_96 : decode cX9_even 96 = .ok (.lload 7, 2) := by decide +kernel
theorem dX9_even_98 : decode cX9_even 98 = .ok (.lconst 0, 1) := by decide +kernel
theorem dX9_even_99 : decode cX9_even 99 = .ok (.lcmp, 1) := by decide +kernel
theorem dX9_even_100 : decode cX9_even 100 = .ok (.ifCond .ge 9, 3) := by decide +kernel
theorem dX9_even_103 : decode cX9_even 103 = .ok (.lload 7, 2) := by decide +kernel
theorem dX9_even_105 : decode cX9_even 105 = .ok (.lneg, 1) := by decide +kernel
theorem dX9_even_106 : decode cX9_even 106 = .ok (.goto 5, 3) := by decide +kernel
theorem dX9_even_109 : decode cX9_even 109 = .ok (.lload 7, 2) := by decide +kernel
theorem dX9_even_111 : decode cX9_even 111 = .ok (.lstore 7, 2) := by decide +kernel
theorem dX9_even_113 : decode cX9_even 113 = .ok (.iload_n 3, 1) := by decide +kernel
theorem dX9_even_114 : decode cX9_even 114 = .ok (.ifCond .lt 11, 3) := by decide +kernel
theorem dX9_even_117 : decode cX9_even 117 = .ok (.lload 7, 2) := by decide +kernel
theorem dX9_even_119 : decode cX9_even 119 = .ok (.lload 4, 2) := by decide +kernel
theorem dX9_even_121 : decode cX9_even 121 = .ok (.lcmp, 1) := by decide +kernel
theorem dX9_even_122 : decode cX9_even 122 = .ok (.ifCond .ge 10, 3) := by decide +kernel
theorem dX9_even_125 : decode cX9_even 125 = .ok (.iload 6, 2) := by decide +kernel
theorem dX9_even_127 : decode cX9_even 127 = .ok (.istore_n 3, 1) := by decide +kernel
theorem dX9_even_128 : decode cX9_even 128 = .ok (.lload 7, 2) := by decide +kernel
theorem dX9_even_130 : decode cX9_even 130 = .ok (.lstore 4, 2) := by decide +kernel
theorem dX9_even_132 : decode cX9_even 132 = .ok (.iinc 6 1, 3) := by decide +kernel
theorem dX9_even_135 : decode cX9_even 135 = .ok (.goto (-110), 3) := by decide +kernel
theorem dX9_even_138 : decode cX9_even 138 = .ok (.aload_n 0, 1) := by decide +kernel
theorem dX9_even_139 : decode cX9_even 139 = .ok (.getfield 9, 3) := by decide +kernel
theorem dX9_even_142 : decode cX9_even 142 = .ok (.iload_n 1, 1) := by decide +kernel
theorem dX9_even_143 : decode cX9_even 143 = .ok (.iload_n 2, 1) := by decide +kernel
theorem dX9_even_144 : decode cX9_even 144 = .ok (.iastore, 1) := by decide +kernel
theorem dX9_even_145 : decode cX9_even 145 = .ok (.iload_n 3, 1) := by decide +kernel
theorem dX9_even_146 : decode cX9_even 146 = .ok (.ireturn, 1) := by decide +kernel
theorem dX9_leagueOf_0 : decode cX9_leagueOf 0 = .ok (.aload_n 0, 1) := by decide +kernel
theorem dX9_leagueOf_1 : decode cX9_leagueOf 1 = .ok (.invokevirtual 241, 3) := by decide +kernel
theorem dX9_leagueOf_4 : decode cX9_leagueOf 4 = .ok (.iconst 1, 1) := by decide +kernel
theorem dX9_leagueOf_5 : decode cX9_leagueOf 5 = .ok (.iload_n 1, 1) := by decide +kernel
theorem dX9_leagueOf_6 : decode cX9_leagueOf 6 = .ok (.ishl, 1) := by decide +kernel
theorem dX9_leagueOf_7 : decode cX9_leagueOf 7 = .ok (.iconst 1, 1) := by decide +kernel
theorem dX9_leagueOf_8 : decode cX9_leagueOf 8 = .ok (.iload_n 2, 1) := by decide +kernel
theorem dX9_leagueOf_9 : decode cX9_leagueOf 9 = .ok (.ishl, 1) := by decide +kernel
theorem dX9_leagueOf_10 : decode cX9_leagueOf 10 = .ok (.ior, 1) := by decide +kernel
theorem dX9_leagueOf_11 : decode cX9_leagueOf 11 = .ok (.istore_n 3, 1) := by decide +kernel
theorem dX9_leagueOf_12 : decode cX9_leagueOf 12 = .ok (.aload_n 0, 1) := by decide +kernel
theorem dX9_leagueOf_13 : decode cX9_leagueOf 13 = .ok (.iload_n 3, 1) := by decide +kernel
theorem dX9_leagueOf_14 : decode cX9_leagueOf 14 = .ok (.iconst 0, 1) := by decide +kernel
theorem dX9_leagueOf_15 : decode cX9_leagueOf 15 = .ok (.iload_n 1, 1) := by decide +kernel
theorem dX9_leagueOf_16 : decode cX9_leagueOf 16 = .ok (.invokevirtual 244, 3) := by decide +kernel
theorem dX9_leagueOf_19 : decode cX9_leagueOf 19 = .ok (.lstore 4, 2) := by decide +kernel
theorem dX9_leagueOf_21 : decode cX9_leagueOf 21 = .ok (.aload_n 0, 1) := by decide +kernel
theorem dX9_leagueOf_22 : decode cX9_leagueOf 22 = .ok (.iload_n 3, 1) := by decide +kernel
theorem dX9_leagueOf_23 : decode cX9_leagueOf 23 = .ok (.iconst 0, 1) := by decide +kernel
theorem dX9_leagueOf_24 : decode cX9_leagueOf 24 = .ok (.iload_n 2, 1) := by decide +kernel
theorem dX9_leagueOf_25 : decode cX9_leagueOf 25 = .ok (.invokevirtual 244, 3) := by decide +kernel
theorem dX9_leagueOf_28 : decode cX9_leagueOf 28 = .ok (.lstore 6, 2) := by decide +kernel
theorem dX9_leagueOf_30 : decode cX9_leagueOf 30 = .ok (.lload 4, 2) := by decide +kernel
theorem dX9_leagueOf_32 : decode cX9_leagueOf 32 = .ok (.lload 6, 2) := by decide +kernel
theorem dX9_leagueOf_34 : decode cX9_leagueOf 34 = .ok (.lcmp, 1) := by decide +kernel
theorem dX9_leagueOf_35 : decode cX9_leagueOf 35 = .ok (.ifCond .le 7, 3) := by decide +kernel
theorem dX9_leagueOf_38 : decode cX9_leagueOf 38 = .ok (.iconst 1, 1) := by decide +kernel
theorem dX9_leagueOf_39 : decode cX9_leagueOf 39 = .ok (.goto 16, 3) := by decide +kernel
theorem dX9_leagueOf_42 : decode cX9_leagueOf 42 = .ok (.lload 4, 2) := by decide +kernel
theorem dX9_leagueOf_44 : decode cX9_leagueOf 44 = .ok (.lload 6, 2) := by decide +kernel
theorem dX9_leagueOf_46 : decode cX9_leagueOf 46 = .ok (.lcmp, 1) := by decide +kernel
theorem dX9_leagueOf_47 : decode cX9_leagueOf 47 = .ok (.ifCond .ge 7, 3) := by decide +kernel
theorem dX9_leagueOf_50 : decode cX9_leagueOf 50 = .ok (.iconst 2, 1) := by decide +kernel
theorem dX9_leagueOf_51 : decode cX9_leagueOf 51 = .ok (.goto 4, 3) := by decide +kernel
theorem dX9_leagueOf_54 : decode cX9_leagueOf 54 = .ok (.iconst 0, 1) := by decide +kernel
theorem dX9_leagueOf_55 : decode cX9_leagueOf 55 = .ok (.ireturn, 1) := by decide +kernel
theorem dX9_league_0 : decode cX9_league 0 = .ok (.iload_n 1, 1) := by decide +kernel
theorem dX9_league_1 : decode cX9_league 1 = .ok (.ifCond .lt 36, 3) := by decide +kernel
theorem dX9_league_4 : decode cX9_league 4 = .ok (.aload_n 0, 1) := by decide +kernel
theorem dX9_league_5 : decode cX9_league 5 = .ok (.iload_n 1, 1) := by decide +kernel
theorem dX9_league_6 : decode cX9_league 6 = .ok (.bipush 10, 2) := by decide +kernel
theorem dX9_league_8 : decode cX9_league 8 = .ok (.idiv, 1) := by decide +kernel
theorem dX9_league_9 : decode cX9_league 9 = .ok (.invokevirtual 124, 3) := by decide +kernel
theorem dX9_league_12 : decode cX9_league 12 = .ok (.ifCond .eq 25, 3) := by decide +kernel
theorem dX9_league_15 : decode cX9_league 15 = .ok (.aload_n 0, 1) := by decide +kernel
theorem dX9_league_16 : decode cX9_league 16 = .ok (.iload_n 1, 1) := by decide +kernel
theorem dX9_league_17 : decode cX9_league 17 = .ok (.bipush 10, 2) := by decide +kernel
theorem dX9_league_19 : decode cX9_league 19 = .ok (.irem, 1) := by decide +kernel
theorem dX9_league_20 : decode cX9_league 20 = .ok (.invokevirtual 124, 3) := by decide +kernel
theorem dX9_league_23 : decode cX9_league 23 = .ok (.ifCond .eq 14, 3) := by decide +kernel
theorem dX9_league_26 : decode cX9_league 26 = .ok (.iload_n 1, 1) := by decide +kernel
theorem dX9_league_27 : decode cX9_league 27 = .ok (.bipush 10, 2) := by decide +kernel
theorem dX9_league_29 : decode cX9_league 29 = .ok (.idiv, 1) := by decide +kernel
theorem dX9_league_30 : decode cX9_league 30 = .ok (.iload_n 1, 1) := by decide +kernel
theorem dX9_league_31 : decode cX9_league 31 = .ok (.bipush 10, 2) := by decide +kernel
theorem dX9_league_33 : decode cX9_league 33 = .ok (.irem, 1) := by decide +kernel
theorem dX9_league_34 : decode cX9_league 34 = .ok (.if_icmp .ne 5, 3) := by decide +kernel
theorem dX9_league_37 : decode cX9_league 37 = .ok (.iconst (-1), 1) := by decide +kernel
theorem dX9_league_38 : decode cX9_league 38 = .ok (.ireturn, 1) := by decide +kernel
theorem dX9_league_39 : decode cX9_league 39 = .ok (.aload_n 0, 1) := by decide +kernel
theorem dX9_league_40 : decode cX9_league 40 = .ok (.iload_n 1, 1) := by decide +kernel
theorem dX9_league_41 : decode cX9_league 41 = .ok (.bipush 10, 2) := by decide +kernel
theorem dX9_league_43 : decode cX9_league 43 = .ok (.idiv, 1) := by decide +kernel
theorem dX9_league_44 : decode cX9_league 44 = .ok (.iload_n 1, 1) := by decide +kernel
theorem dX9_league_45 : decode cX9_league 45 = .ok (.bipush 10, 2) := by decide +kernel
theorem dX9_league_47 : decode cX9_league 47 = .ok (.irem, 1) := by decide +kernel
theorem dX9_league_48 : decode cX9_league 48 = .ok (.invokevirtual 282, 3) := by decide +kernel
theorem dX9_league_51 : decode cX9_league 51 = .ok (.ireturn, 1) := by decide +kernel
theorem dX9_points_0 : decode cX9_points 0 = .ok (.aload_n 0, 1) := by decide +kernel
theorem dX9_points_1 : decode cX9_points 1 = .ok (.iload_n 1, 1) := by decide +kernel
theorem dX9_points_2 : decode cX9_points 2 = .ok (.invokevirtual 124, 3) := by decide +kernel
theorem dX9_points_5 : decode cX9_points 5 = .ok (.ifCond .ne 5, 3) := by decide +kernel
theorem dX9_points_8 : decode cX9_points 8 = .ok (.iconst (-1), 1) := by decide +kernel
theorem dX9_points_9 : decode cX9_points 9 = .ok (.ireturn, 1) := by decide +kernel
theorem dX9_points_10 : decode cX9_points 10 = .ok (.iconst 0, 1) := by decide +kernel
theorem dX9_points_11 : decode cX9_points 11 = .ok (.istore_n 2, 1) := by decide +kernel
theorem dX9_points_12 : decode cX9_points 12 = .ok (.iconst 0, 1) := by decide +kernel
theorem dX9_points_13 : decode cX9_points 13 = .ok (.istore_n 3, 1) := by decide +kernel
theorem dX9_points_14 : decode cX9_points 14 = .ok (.iload_n 3, 1) := by decide +kernel
theorem dX9_points_15 : decode cX9_points 15 = .ok (.aload_n 0, 1) := by decide +kernel
theorem dX9_points_16 : decode cX9_points 16 = .ok (.getfield 96, 3) := by decide +kernel
theorem dX9_points_19 : decode cX9_points 19 = .ok (.if_icmp .ge 49, 3) := by decide +kernel
theorem dX9_points_22 : decode cX9_points 22 = .ok (.iload_n 3, 1) := by decide +kernel
theorem dX9_points_23 : decode cX9_points 23 = .ok (.iload_n 1, 1) := by decide +kernel
theorem dX9_points_24 : decode cX9_points 24 = .ok (.if_icmp .ne 7, 3) := by decide +kernel
theorem dX9_points_27 : decode cX9_points 27 = .ok (.iconst 2, 1) := by decide +kernel
theorem dX9_points_28 : decode cX9_points 28 = .ok (.goto 9, 3) := by decide +kernel
theorem dX9_points_31 : decode cX9_points 31 = .ok (.aload_n 0, 1) := by decide +kernel
theorem dX9_points_32 : decode cX9_points 32 = .ok (.iload_n 1, 1) := by decide +kernel
theorem dX9_points_33 : decode cX9_points 33 = .ok (.iload_n 3, 1) := by decide +kernel
theorem dX9_points_34 : decode cX9_points 34 = .ok (.invokevirtual 282, 3) := by decide +kernel
theorem dX9_points_37 : decode cX9_points 37 = .ok (.istore 4, 2) := by decide +kernel
theorem dX9_points_39 : decode cX9_points 39 = .ok (.iload_n 2, 1) := by decide +kernel
theorem dX9_points_40 : decode cX9_points 40 = .ok (.iload 4, 2) := by decide +kernel
theorem dX9_points_42 : decode cX9_points 42 = .ok (.iconst 1, 1) := by decide +kernel
theorem dX9_points_43 : decode cX9_points 43 = .ok (.if_icmp .ne 7, 3) := by decide +kernel
theorem dX9_points_46 : decode cX9_points 46 = .ok (.iconst 2, 1) := by decide +kernel
theorem dX9_points_47 : decode cX9_points 47 = .ok (.goto 13, 3) := by decide +kernel
theorem dX9_points_50 : decode cX9_points 50 = .ok (.iload 4, 2) := by decide +kernel
theorem dX9_points_52 : decode cX9_points 52 = .ok (.ifCond .ne 7, 3) := by decide +kernel
theorem dX9_points_55 : decode cX9_points 55 = .ok (.iconst 1, 1) := by decide +kernel
theorem dX9_points_56 : decode cX9_points 56 = .ok (.goto 4, 3) := by decide +kernel
theorem dX9_points_59 : decode cX9_points 59 = .ok (.iconst 0, 1) := by decide +kernel
theorem dX9_points_60 : decode cX9_points 60 = .ok (.iadd, 1) := by decide +kernel
theorem dX9_points_61 : decode cX9_points 61 = .ok (.istore_n 2, 1) := by decide +kernel
theorem dX9_points_62 : decode cX9_points 62 = .ok (.iinc 3 1, 3) := by decide +kernel
theorem dX9_points_65 : decode cX9_points 65 = .ok (.goto (-51), 3) := by decide +kernel
theorem dX9_points_68 : decode cX9_points 68 = .ok (.iload_n 2, 1) := by decide +kernel
theorem dX9_points_69 : decode cX9_points 69 = .ok (.ireturn, 1) := by decide +kernel
theorem dX9_mayThrow_0 : decode cX9_mayThrow 0 = .ok (.aload_n 0, 1) := by decide +kernel
theorem dX9_mayThrow_1 : decode cX9_mayThrow 1 = .ok (.iload_n 1, 1) := by decide +kernel
theorem dX9_mayThrow_2 : decode cX9_mayThrow 2 = .ok (.iload_n 2, 1) := by decide +kernel
theorem dX9_mayThrow_3 : decode cX9_mayThrow 3 = .ok (.invokevirtual 228, 3) := by decide +kernel
theorem dX9_mayThrow_6 : decode cX9_mayThrow 6 = .ok (.ifCond .ne 13, 3) := by decide +kernel
theorem dX9_mayThrow_9 : decode cX9_mayThrow 9 = .ok (.lload 6, 2) := by decide +kernel
theorem dX9_mayThrow_11 : decode cX9_mayThrow 11 = .ok (.lconst 0, 1) := by decide +kernel
theorem dX9_mayThrow_12 : decode cX9_mayThrow 12 = .ok (.lconst 1, 1) := by decide +kernel
theorem dX9_mayThrow_13 : decode cX9_mayThrow 13 = .ok (.invokestatic 99, 3) := by decide +kernel
theorem dX9_mayThrow_16 : decode cX9_mayThrow 16 = .ok (.ifCond .ne 5, 3) := by decide +kernel
theorem dX9_mayThrow_19 : decode cX9_mayThrow 19 = .ok (.iconst 0, 1) := by decide +kernel
theorem dX9_mayThrow_20 : decode cX9_mayThrow 20 = .ok (.ireturn, 1) := by decide +kernel
theorem dX9_mayThrow_21 : decode cX9_mayThrow 21 = .ok (.lload 4, 2) := by decide +kernel
theorem dX9_mayThrow_23 : decode cX9_mayThrow 23 = .ok (.ldc2_w 137, 3) := by decide +kernel
theorem dX9_mayThrow_26 : decode cX9_mayThrow 26 = .ok (.lcmp, 1) := by decide +kernel
theorem dX9_mayThrow_27 : decode cX9_mayThrow 27 = .ok (.ifCond .ne 16, 3) := by decide +kernel
theorem dX9_mayThrow_30 : decode cX9_mayThrow 30 = .ok (.lload 6, 2) := by decide +kernel
theorem dX9_mayThrow_32 : decode cX9_mayThrow 32 = .ok (.lconst 0, 1) := by decide +kernel
theorem dX9_mayThrow_33 : decode cX9_mayThrow 33 = .ok (.lcmp, 1) := by decide +kernel
theorem dX9_mayThrow_34 : decode cX9_mayThrow 34 = .ok (.ifCond .ne 7, 3) := by decide +kernel
theorem dX9_mayThrow_37 : decode cX9_mayThrow 37 = .ok (.iconst 1, 1) := by decide +kernel
theorem dX9_mayThrow_38 : decode cX9_mayThrow 38 = .ok (.goto 4, 3) := by decide +kernel
theorem dX9_mayThrow_41 : decode cX9_mayThrow 41 = .ok (.iconst 0, 1) := by decide +kernel
theorem dX9_mayThrow_42 : decode cX9_mayThrow 42 = .ok (.ireturn, 1) := by decide +kernel
theorem dX9_mayThrow_43 : decode cX9_mayThrow 43 = .ok (.lload 4, 2) := by decide +kernel
theorem dX9_mayThrow_45 : decode cX9_mayThrow 45 = .ok (.lconst 0, 1) := by decide +kernel
theorem dX9_mayThrow_46 : decode cX9_mayThrow 46 = .ok (.aload_n 0, 1) := by decide +kernel
theorem dX9_mayThrow_47 : decode cX9_mayThrow 47 = .ok (.getfield 96, 3) := by decide +kernel
theorem dX9_mayThrow_50 : decode cX9_mayThrow 50 = .ok (.iconst 1, 1) := by decide +kernel
theorem dX9_mayThrow_51 : decode cX9_mayThrow 51 = .ok (.isub, 1) := by decide +kernel
theorem dX9_mayThrow_52 : decode cX9_mayThrow 52 = .ok (.i2l, 1) := by decide +kernel
theorem dX9_mayThrow_53 : decode cX9_mayThrow 53 = .ok (.invokestatic 99, 3) := by decide +kernel
theorem dX9_mayThrow_56 : decode cX9_mayThrow 56 = .ok (.ifCond .eq 21, 3) := by decide +kernel
theorem dX9_mayThrow_59 : decode cX9_mayThrow 59 = .ok (.lload 4, 2) := by decide +kernel
theorem dX9_mayThrow_61 : decode cX9_mayThrow 61 = .ok (.iload_n 3, 1) := by decide +kernel
theorem dX9_mayThrow_62 : decode cX9_mayThrow 62 = .ok (.i2l, 1) := by decide +kernel
theorem dX9_mayThrow_63 : decode cX9_mayThrow 63 = .ok (.lcmp, 1) := by decide +kernel
theorem dX9_mayThrow_64 : decode cX9_mayThrow 64 = .ok (.ifCond .eq 13, 3) := by decide +kernel
theorem dX9_mayThrow_67 : decode cX9_mayThrow 67 = .ok (.iload_n 2, 1) := by decide +kernel
theorem dX9_mayThrow_68 : decode cX9_mayThrow 68 = .ok (.lload 4, 2) := by decide +kernel
theorem dX9_mayThrow_70 : decode cX9_mayThrow 70 = .ok (.l2i, 1) := by decide +kernel
theorem dX9_mayThrow_71 : decode cX9_mayThrow 71 = .ok (.invokestatic 133, 3) := by decide +kernel
theorem dX9_mayThrow_74 : decode cX9_mayThrow 74 = .ok (.ifCond .ne 5, 3) := by decide +kernel
theorem dX9_mayThrow_77 : decode cX9_mayThrow 77 = .ok (.iconst 0, 1) := by decide +kernel
theorem dX9_mayThrow_78 : decode cX9_mayThrow 78 = .ok (.ireturn, 1) := by decide +kernel
theorem dX9_mayThrow_79 : decode cX9_mayThrow 79 = .ok (.aload_n 0, 1) := by decide +kernel
theorem dX9_mayThrow_80 : decode cX9_mayThrow 80 = .ok (.iload_n 3, 1) := by decide +kernel
theorem dX9_mayThrow_81 : decode cX9_mayThrow 81 = .ok (.lload 4, 2) := by decide +kernel
theorem dX9_mayThrow_83 : decode cX9_mayThrow 83 = .ok (.l2i, 1) := by decide +kernel
theorem dX9_mayThrow_84 : decode cX9_mayThrow 84 = .ok (.iload_n 2, 1) := by decide +kernel
theorem dX9_mayThrow_85 : decode cX9_mayThrow 85 = .ok (.invokestatic 197, 3) := by decide +kernel
theorem dX9_mayThrow_88 : decode cX9_mayThrow 88 = .ok (.iload_n 1, 1) := by decide +kernel
theorem dX9_mayThrow_89 : decode cX9_mayThrow 89 = .ok (.invokevirtual 211, 3) := by decide +kernel
theorem dX9_mayThrow_92 : decode cX9_mayThrow 92 = .ok (.istore 8, 2) := by decide +kernel
theorem dX9_mayThrow_94 : decode cX9_mayThrow 94 = .ok (.lload 6, 2) := by decide +kernel
theorem dX9_mayThrow_96 : decode cX9_mayThrow 96 = .ok (.lconst 1, 1) := by decide +kernel
theorem dX9_mayThrow_97 : decode cX9_mayThrow 97 = .ok (.lcmp, 1) := by decide +kernel
theorem dX9_mayThrow_98 : decode cX9_mayThrow 98 = .ok (.ifCond .ne 16, 3) := by decide +kernel
theorem dX9_mayThrow_101 : decode cX9_mayThrow 101 = .ok (.iload 8, 2) := by decide +kernel
theorem dX9_mayThrow_103 : decode cX9_mayThrow 103 = .ok (.ifCond .le 7, 3) := by decide +kernel
theorem dX9_mayThrow_106 : decode cX9_mayThrow 106 = .ok (.iconst 1, 1) := by decide +kernel
theorem dX9_mayThrow_107 : decode cX9_mayThrow 107 = .ok (.goto 19, 3) := by decide +kernel
theorem dX9_mayThrow_110 : decode cX9_mayThrow 110 = .ok (.iconst 0, 1) := by decide +kernel
theorem dX9_mayThrow_111 : decode cX9_mayThrow 111 = .ok (.goto 15, 3) := by decide +kernel
theorem dX9_mayThrow_114 : decode cX9_mayThrow 114 = .ok (.iload 8, 2) := by decide +kernel
theorem dX9_mayThrow_116 : decode cX9_mayThrow 116 = .ok (.bipush 12, 2) := by decide +kernel
theorem dX9_mayThrow_118 : decode cX9_mayThrow 118 = .ok (.if_icmp .ge 7, 3) := by decide +kernel
theorem dX9_mayThrow_121 : decode cX9_mayThrow 121 = .ok (.iconst 1, 1) := by decide +kernel
theorem dX9_mayThrow_122 : decode cX9_mayThrow 122 = .ok (.goto 4, 3) := by decide +kernel
theorem dX9_mayThrow_125 : decode cX9_mayThrow 125 = .ok (.iconst 0, 1) := by decide +kernel
theorem dX9_mayThrow_126 : decode cX9_mayThrow 126 = .ok (.ireturn, 1) := by decide +kernel
theorem dX9_looksAt_0 : decode cX9_looksAt 0 = .ok (.aload_n 0, 1) := by decide +kernel
theorem dX9_looksAt_1 : decode cX9_looksAt 1 = .ok (.invokevirtual 241, 3) := by decide +kernel
theorem dX9_looksAt_4 : decode cX9_looksAt 4 = .ok (.aload_n 0, 1) := by decide +kernel
theorem dX9_looksAt_5 : decode cX9_looksAt 5 = .ok (.bipush (-2), 2) := by decide +kernel
theorem dX9_looksAt_7 : decode cX9_looksAt 7 = .ok (.putfield 285, 3) := by decide +kernel
theorem dX9_looksAt_10 : decode cX9_looksAt 10 = .ok (.aload_n 0, 1) := by decide +kernel
theorem dX9_looksAt_11 : decode cX9_looksAt 11 = .ok (.bipush (-2), 2) := by decide +kernel
theorem dX9_looksAt_13 : decode cX9_looksAt 13 = .ok (.putfield 288, 3) := by decide +kernel
theorem dX9_looksAt_16 : decode cX9_looksAt 16 = .ok (.aload_n 0, 1) := by decide +kernel
theorem dX9_looksAt_17 : decode cX9_looksAt 17 = .ok (.lconst 1, 1) := by decide +kernel
theorem dX9_looksAt_18 : decode cX9_looksAt 18 = .ok (.putfield 291, 3) := by decide +kernel
theorem dX9_looksAt_21 : decode cX9_looksAt 21 = .ok (.aload_n 0, 1) := by decide +kernel
theorem dX9_looksAt_22 : decode cX9_looksAt 22 = .ok (.lconst 1, 1) := by decide +kernel
theorem dX9_looksAt_23 : decode cX9_looksAt 23 = .ok (.putfield 295, 3) := by decide +kernel
theorem dX9_looksAt_26 : decode cX9_looksAt 26 = .ok (.aload_n 0, 1) := by decide +kernel
theorem dX9_looksAt_27 : decode cX9_looksAt 27 = .ok (.invokevirtual 225, 3) := by decide +kernel
theorem dX9_looksAt_30 : decode cX9_looksAt 30 = .ok (.istore_n 2, 1) := by decide +kernel
theorem dX9_looksAt_31 : decode cX9_looksAt 31 = .ok (.aload_n 0, 1) := by decide +kernel
theorem dX9_looksAt_32 : decode cX9_looksAt 32 = .ok (.getfield 96, 3) := by decide +kernel
theorem dX9_looksAt_35 : decode cX9_looksAt 35 = .ok (.ifCond .ne 7, 3) := by decide +kernel
theorem dX9_looksAt_38 : decode cX9_looksAt 38 = .ok (.iconst 0, 1) := by decide +kernel
theorem dX9_looksAt_39 : decode cX9_looksAt 39 = .ok (.goto 9, 3) := by decide +kernel
theorem dX9_looksAt_42 : decode cX9_looksAt 42 = .ok (.aload_n 0, 1) := by decide +kernel
theorem dX9_looksAt_43 : decode cX9_looksAt 43 = .ok (.getfield 22, 3) := by decide +kernel
theorem dX9_looksAt_46 : decode cX9_looksAt 46 = .ok (.iconst 0, 1) := by decide +kernel
theorem dX9_looksAt_47 : decode cX9_looksAt 47 = .ok (.iaload, 1) := by decide +kernel
theorem dX9_looksAt_48 : decode cX9_looksAt 48 = .ok (.istore_n 3, 1) := by decide +kernel
theorem dX9_looksAt_49 : decode cX9_looksAt 49 = .ok (.iconst 0, 1) := by decide +kernel
theorem dX9_looksAt_50 : decode cX9_looksAt 50 = .ok (.istore 4, 2) := by decide +kernel
theorem dX9_looksAt_52 : decode cX9_looksAt 52 = .ok (.iconst 2, 1) := by decide +kernel
theorem dX9_looksAt_53 : decode cX9_looksAt 53 = .ok (.iload 4, 2) := by decide +kernel
theorem dX9_looksAt_55 : decode cX9_looksAt 55 = .ok (.imul, 1) := by decide +kernel
theorem dX9_looksAt_56 : decode cX9_looksAt 56 = .ok (.aload_n 0, 1) := by decide +kernel
theorem dX9_looksAt_57 : decode cX9_looksAt 57 = .ok (.getfield 74, 3) := by decide +kernel
theorem dX9_looksAt_60 : decode cX9_looksAt 60 = .ok (.iload_n 1, 1) := by decide +kernel
theorem dX9_looksAt_61 : decode cX9_looksAt 61 = .ok (.iaload, 1) := by decide +kernel
theorem dX9_looksAt_62 : decode cX9_looksAt 62 = .ok (.if_icmp .ge 242, 3) := by decide +kernel
theorem dX9_looksAt_65 : decode cX9_looksAt 65 = .ok (.aload_n 0, 1) := by decide +kernel
theorem dX9_looksAt_66 : decode cX9_looksAt 66 = .ok (.getfield 285, 3) := by decide +kernel
theorem dX9_looksAt_69 : decode cX9_looksAt 69 = .ok (.ifCond .ge 235, 3) := by decide +kernel
theorem dX9_looksAt_72 : decode cX9_looksAt 72 = .ok (.aload_n 0, 1) := by decide +kernel
theorem dX9_looksAt_73 : decode cX9_looksAt 73 = .ok (.getfield 77, 3) := by decide +kernel
theorem dX9_looksAt_76 : decode cX9_looksAt 76 = .ok (.bipush 60, 2) := by decide +kernel
theorem dX9_looksAt_78 : decode cX9_looksAt 78 = .ok (.iload_n 1, 1) := by decide +kernel
theorem dX9_looksAt_79 : decode cX9_looksAt 79 = .ok (.imul, 1) := by decide +kernel
theorem dX9_looksAt_80 : decode cX9_looksAt 80 = .ok (.iconst 2, 1) := by decide +kernel
theorem dX9_looksAt_81 : decode cX9_looksAt 81 = .ok (.iload 4, 2) := by decide +kernel
theorem dX9_looksAt_83 : decode cX9_looksAt 83 = .ok (.imul, 1) := by decide +kernel
theorem dX9_looksAt_84 : decode cX9_looksAt 84 = .ok (.iadd, 1) := by decide +kernel
theorem dX9_looksAt_85 : decode cX9_looksAt 85 = .ok (.laload, 1) := by decide +kernel
theorem dX9_looksAt_86 : decode cX9_looksAt 86 = .ok (.lstore 5, 2) := by decide +kernel
theorem dX9_looksAt_88 : decode cX9_looksAt 88 = .ok (.iconst 2, 1) := by decide +kernel
theorem dX9_looksAt_89 : decode cX9_looksAt 89 = .ok (.iload 4, 2) := by decide +kernel
theorem dX9_looksAt_91 : decode cX9_looksAt 91 = .ok (.imul, 1) := by decide +kernel
theorem dX9_looksAt_92 : decode cX9_looksAt 92 = .ok (.iconst 1, 1) := by decide +kernel
theorem dX9_looksAt_93 : decode cX9_looksAt 93 = .ok (.iadd, 1) := by decide +kernel
theorem dX9_looksAt_94 : decode cX9_looksAt 94 = .ok (.aload_n 0, 1) := by decide +kernel
theorem dX9_looksAt_95 : decode cX9_looksAt 95 = .ok (.getfield 74, 3) := by decide +kernel
theorem dX9_looksAt_98 : decode cX9_looksAt 98 = .ok (.iload_n 1, 1) := by decide +kernel
theorem dX9_looksAt_99 : decode cX9_looksAt 99 = .ok (.iaload, 1) := by decide +kernel
theorem dX9_looksAt_100 : decode cX9_looksAt 100 = .ok (.if_icmp .ge 7, 3) := by decide +kernel
theorem dX9_looksAt_103 : decode cX9_looksAt 103 = .ok (.iconst 1, 1) := by decide +kernel
theorem dX9_looksAt_104 : decode cX9_looksAt 104 = .ok (.goto 4, 3) := by decide +kernel
theorem dX9_looksAt_107 : decode cX9_looksAt 107 = .ok (.iconst 0, 1) := by decide +kernel
theorem dX9_looksAt_108 : decode cX9_looksAt 108 = .ok (.istore 7, 2) := by decide +kernel
theorem dX9_looksAt_110 : decode cX9_looksAt 110 = .ok (.iload 7, 2) := by decide +kernel
theorem dX9_looksAt_112 : decode cX9_looksAt 112 = .ok (.ifCond .eq 22, 3) := by decide +kernel
theorem dX9_looksAt_115 : decode cX9_looksAt 115 = .ok (.aload_n 0, 1) := by decide +kernel
theorem dX9_looksAt_116 : decode cX9_looksAt 116 = .ok (.getfield 77, 3) := by decide +kernel
theorem dX9_looksAt_119 : decode cX9_looksAt 119 = .ok (.bipush 60, 2) := by decide +kernel
theorem dX9_looksAt_121 : decode cX9_looksAt 121 = .ok (.iload_n 1, 1) := by decide +kernel
theorem dX9_looksAt_122 : decode cX9_looksAt 122 = .ok (.imul, 1) := by decide +kernel
theorem dX9_looksAt_123 : decode cX9_looksAt 123 = .ok (.iconst 2, 1) := by decide +kernel
theorem dX9_looksAt_124 : decode cX9_looksAt 124 = .ok (.iload 4, 2) := by decide +kernel
theorem dX9_looksAt_126 : decode cX9_looksAt 126 = .ok (.imul, 1) := by decide +kernel
theorem dX9_looksAt_127 : decode cX9_looksAt 127 = .ok (.iadd, 1) := by decide +kernel
theorem dX9_looksAt_128 : decode cX9_looksAt 128 = .ok (.iconst 1, 1) := by decide +kernel
theorem dX9_looksAt_129 : decode cX9_looksAt 129 = .ok (.iadd, 1) := by decide +kernel
theorem dX9_looksAt_130 : decode cX9_looksAt 130 = .ok (.laload, 1) := by decide +kernel
theorem dX9_looksAt_131 : decode cX9_looksAt 131 = .ok (.goto 4, 3) := by decide +kernel
theorem dX9_looksAt_134 : decode cX9_looksAt 134 = .ok (.lconst 0, 1) := by decide +kernel
theorem dX9_looksAt_135 : decode cX9_looksAt 135 = .ok (.lstore 8, 2) := by decide +kernel
theorem dX9_looksAt_137 : decode cX9_looksAt 137 = .ok (.iload 7, 2) := by decide +kernel
theorem dX9_looksAt_139 : decode cX9_looksAt 139 = .ok (.ifCond .eq 18, 3) := by decide +kernel
theorem dX9_looksAt_142 : decode cX9_looksAt 142 = .ok (.aload_n 0, 1) := by decide +kernel
theorem dX9_looksAt_143 : decode cX9_looksAt 143 = .ok (.iload 4, 2) := by decide +kernel
theorem dX9_looksAt_145 : decode cX9_looksAt 145 = .ok (.iload_n 2, 1) := by decide +kernel
theorem dX9_looksAt_146 : decode cX9_looksAt 146 = .ok (.iload_n 3, 1) := by decide +kernel
theorem dX9_looksAt_147 : decode cX9_looksAt 147 = .ok (.lload 5, 2) := by decide +kernel
theorem dX9_looksAt_149 : decode cX9_looksAt 149 = .ok (.lload 8, 2) := by decide +kernel
theorem dX9_looksAt_151 : decode cX9_looksAt 151 = .ok (.invokevirtual 298, 3) := by decide +kernel
theorem dX9_looksAt_154 : decode cX9_looksAt 154 = .ok (.ifCond .ne 12, 3) := by decide +kernel
theorem dX9_looksAt_157 : decode cX9_looksAt 157 = .ok (.aload_n 0, 1) := by decide +kernel
theorem dX9_looksAt_158 : decode cX9_looksAt 158 = .ok (.iload 4, 2) := by decide +kernel
theorem dX9_looksAt_160 : decode cX9_looksAt 160 = .ok (.putfield 285, 3) := by decide +kernel
theorem dX9_looksAt_163 : decode cX9_looksAt 163 = .ok (.goto 135, 3) := by decide +kernel
theorem dX9_looksAt_166 : decode cX9_looksAt 166 = .ok (.aload_n 0, 1) := by decide +kernel
theorem dX9_looksAt_167 : decode cX9_looksAt 167 = .ok (.aload_n 0, 1) := by decide +kernel
theorem dX9_looksAt_168 : decode cX9_looksAt 168 = .ok (.getfield 288, 3) := by decide +kernel
theorem dX9_looksAt_171 : decode cX9_looksAt 171 = .ok (.ifCond .ge 27, 3) := by decide +kernel
theorem dX9_looksAt_174 : decode cX9_looksAt 174 = .ok (.aload_n 0, 1) := by decide +kernel
theorem dX9_looksAt_175 : decode cX9_looksAt 175 = .ok (.getfield 50, 3) := by decide +kernel
theorem dX9_looksAt_178 : decode cX9_looksAt 178 = .ok (.iload 4, 2) := by decide +kernel
theorem dX9_looksAt_180 : decode cX9_looksAt 180 = .ok (.iload_n 2, 1) := by decide +kernel
theorem dX9_looksAt_181 : decode cX9_looksAt 181 = .ok (.iload_n 3, 1) := by decide +kernel
theorem dX9_looksAt_182 : decode cX9_looksAt 182 = .ok (.invokestatic 207, 3) := by decide +kernel
theorem dX9_looksAt_185 : decode cX9_looksAt 185 = .ok (.iaload, 1) := by decide +kernel
theorem dX9_looksAt_186 : decode cX9_looksAt 186 = .ok (.i2l, 1) := by decide +kernel
theorem dX9_looksAt_187 : decode cX9_looksAt 187 = .ok (.lload 5, 2) := by decide +kernel
theorem dX9_looksAt_189 : decode cX9_looksAt 189 = .ok (.lcmp, 1) := by decide +kernel
theorem dX9_looksAt_190 : decode cX9_looksAt 190 = .ok (.ifCond .eq 8, 3) := by decide +kernel
theorem dX9_looksAt_193 : decode cX9_looksAt 193 = .ok (.iload 4, 2) := by decide +kernel
theorem dX9_looksAt_195 : decode cX9_looksAt 195 = .ok (.goto 7, 3) := by decide +kernel
theorem dX9_looksAt_198 : decode cX9_looksAt 198 = .ok (.aload_n 0, 1) := by decide +kernel
theorem dX9_looksAt_199 : decode cX9_looksAt 199 = .ok (.getfield 288, 3) := by decide +kernel
theorem dX9_looksAt_202 : decode cX9_looksAt 202 = .ok (.putfield 288, 3) := by decide +kernel
theorem dX9_looksAt_205 : decode cX9_looksAt 205 = .ok (.lload 5, 2) := by decide +kernel
theorem dX9_looksAt_207 : decode cX9_looksAt 207 = .ok (.ldc2_w 137, 3) := by decide +kernel
theorem dX9_looksAt_210 : decode cX9_looksAt 210 = .ok (.lcmp, 1) := by decide +kernel
theorem dX9_looksAt_211 : decode cX9_looksAt 211 = .ok (.ifCond .eq 59, 3) := by decide +kernel
theorem dX9_looksAt_214 : decode cX9_looksAt 214 = .ok (.aload_n 0, 1) := by decide +kernel
theorem dX9_looksAt_215 : decode cX9_looksAt 215 = .ok (.iload_n 3, 1) := by decide +kernel
theorem dX9_looksAt_216 : decode cX9_looksAt 216 = .ok (.lload 5, 2) := by decide +kernel
theorem dX9_looksAt_218 : decode cX9_looksAt 218 = .ok (.l2i, 1) := by decide +kernel
theorem dX9_looksAt_219 : decode cX9_looksAt 219 = .ok (.iload_n 2, 1) := by decide +kernel
theorem dX9_looksAt_220 : decode cX9_looksAt 220 = .ok (.invokestatic 197, 3) := by decide +kernel
theorem dX9_looksAt_223 : decode cX9_looksAt 223 = .ok (.iload 4, 2) := by decide +kernel
theorem dX9_looksAt_225 : decode cX9_looksAt 225 = .ok (.invokevirtual 211, 3) := by decide +kernel
theorem dX9_looksAt_228 : decode cX9_looksAt 228 = .ok (.istore 10, 2) := by decide +kernel
theorem dX9_looksAt_230 : decode cX9_looksAt 230 = .ok (.aload_n 0, 1) := by decide +kernel
theorem dX9_looksAt_231 : decode cX9_looksAt 231 = .ok (.dup, 1) := by decide +kernel
theorem dX9_looksAt_232 : decode cX9_looksAt 232 = .ok (.getfield 291, 3) := by decide +kernel
theorem dX9_looksAt_235 : decode cX9_looksAt 235 = .ok (.lload 8, 2) := by decide +kernel
theorem dX9_looksAt_237 : decode cX9_looksAt 237 = .ok (.lconst 1, 1) := by decide +kernel
theorem dX9_looksAt_238 : decode cX9_looksAt 238 = .ok (.lcmp, 1) := by decide +kernel
theorem dX9_looksAt_239 : decode cX9_looksAt 239 = .ok (.ifCond .ne 9, 3) := by decide +kernel
theorem dX9_looksAt_242 : decode cX9_looksAt 242 = .ok (.iload 10, 2) := by decide +kernel
theorem dX9_looksAt_244 : decode cX9_looksAt 244 = .ok (.i2l, 1) := by decide +kernel
theorem dX9_looksAt_245 : decode cX9_looksAt 245 = .ok (.goto 9, 3) := by decide +kernel
theorem dX9_looksAt_248 : decode cX9_looksAt 248 = .ok (.bipush 12, 2) := by decide +kernel
theorem dX9_looksAt_250 : decode cX9_looksAt 250 = .ok (.iload 10, 2) := by decide +kernel
theorem dX9_looksAt_252 : decode cX9_looksAt 252 = .ok (.isub, 1) := by decide +kernel
theorem dX9_looksAt_253 : decode cX9_looksAt 253 = .ok (.i2l, 1) := by decide +kernel
theorem dX9_looksAt_254 : decode cX9_looksAt 254 = .ok (.lmul, 1) := by decide +kernel
theorem dX9_looksAt_255 : decode cX9_looksAt 255 = .ok (.putfield 291, 3) := by decide +kernel
theorem dX9_looksAt_258 : decode cX9_looksAt 258 = .ok (.aload_n 0, 1) := by decide +kernel
theorem dX9_looksAt_259 : decode cX9_looksAt 259 = .ok (.dup, 1) := by decide +kernel
theorem dX9_looksAt_260 : decode cX9_looksAt 260 = .ok (.getfield 295, 3) := by decide +kernel
theorem dX9_looksAt_263 : decode cX9_looksAt 263 = .ok (.ldc2_w 103, 3) := by decide +kernel
theorem dX9_looksAt_266 : decode cX9_looksAt 266 = .ok (.lmul, 1) := by decide +kernel
theorem dX9_looksAt_267 : decode cX9_looksAt 267 = .ok (.putfield 295, 3) := by decide +kernel
theorem dX9_looksAt_270 : decode cX9_looksAt 270 = .ok (.lload 8, 2) := by decide +kernel
theorem dX9_looksAt_272 : decode cX9_looksAt 272 = .ok (.lconst 1, 1) := by decide +kernel
theorem dX9_looksAt_273 : decode cX9_looksAt 273 = .ok (.lcmp, 1) := by decide +kernel
theorem dX9_looksAt_274 : decode cX9_looksAt 274 = .ok (.ifCond .ne 15, 3) := by decide +kernel
theorem dX9_looksAt_277 : decode cX9_looksAt 277 = .ok (.iload_n 2, 1) := by decide +kernel
theorem dX9_looksAt_278 : decode cX9_looksAt 278 = .ok (.iconst 1, 1) := by decide +kernel
theorem dX9_looksAt_279 : decode cX9_looksAt 279 = .ok (.lload 5, 2) := by decide +kernel
theorem dX9_looksAt_281 : decode cX9_looksAt 281 = .ok (.l2i, 1) := by decide +kernel
theorem dX9_looksAt_282 : decode cX9_looksAt 282 = .ok (.ishl, 1) := by decide +kernel
theorem dX9_looksAt_283 : decode cX9_looksAt 283 = .ok (.iconst (-1), 1) := by decide +kernel
theorem dX9_looksAt_284 : decode cX9_looksAt 284 = .ok (.ixor, 1) := by decide +kernel
theorem dX9_looksAt_285 : decode cX9_looksAt 285 = .ok (.iand, 1) := by decide +kernel
theorem dX9_looksAt_286 : decode cX9_looksAt 286 = .ok (.goto 4, 3) := by decide +kernel
theorem dX9_looksAt_289 : decode cX9_looksAt 289 = .ok (.iload_n 2, 1) := by decide +kernel
theorem dX9_looksAt_290 : decode cX9_looksAt 290 = .ok (.istore_n 2, 1) := by decide +kernel
theorem dX9_looksAt_291 : decode cX9_looksAt 291 = .ok (.aload_n 0, 1) := by decide +kernel
theorem dX9_looksAt_292 : decode cX9_looksAt 292 = .ok (.iload_n 3, 1) := by decide +kernel
theorem dX9_looksAt_293 : decode cX9_looksAt 293 = .ok (.iload_n 2, 1) := by decide +kernel
theorem dX9_looksAt_294 : decode cX9_looksAt 294 = .ok (.invokevirtual 204, 3) := by decide +kernel
theorem dX9_looksAt_297 : decode cX9_looksAt 297 = .ok (.istore_n 3, 1) := by decide +kernel
theorem dX9_looksAt_298 : decode cX9_looksAt 298 = .ok (.iinc 4 1, 3) := by decide +kernel
theorem dX9_looksAt_301 : decode cX9_looksAt 301 = .ok (.goto (-249), 3) := by decide +kernel
theorem dX9_looksAt_304 : decode cX9_looksAt 304 = .ok (.return_, 1) := by decide +kernel
theorem dX9_judge_0 : decode cX9_judge 0 = .ok (.iload_n 1, 1) := by decide +kernel
theorem dX9_judge_1 : decode cX9_judge 1 = .ok (.invokestatic 118, 3) := by decide +kernel
theorem dX9_judge_4 : decode cX9_judge 4 = .ok (.ifCond .eq 13, 3) := by decide +kernel
theorem dX9_judge_7 : decode cX9_judge 7 = .ok (.iload_n 2, 1) := by decide +kernel
theorem dX9_judge_8 : decode cX9_judge 8 = .ok (.i2l, 1) := by decide +kernel
theorem dX9_judge_9 : decode cX9_judge 9 = .ok (.lconst 0, 1) := by decide +kernel
theorem dX9_judge_10 : decode cX9_judge 10 = .ok (.lconst 1, 1) := by decide +kernel
theorem dX9_judge_11 : decode cX9_judge 11 = .ok (.invokestatic 99, 3) := by decide +kernel
theorem dX9_judge_14 : decode cX9_judge 14 = .ok (.ifCond .ne 5, 3) := by decide +kernel
theorem dX9_judge_17 : decode cX9_judge 17 = .ok (.iconst (-1), 1) := by decide +kernel
theorem dX9_judge_18 : decode cX9_judge 18 = .ok (.ireturn, 1) := by decide +kernel
theorem dX9_judge_19 : decode cX9_judge 19 = .ok (.aload_n 0, 1) := by decide +kernel
theorem dX9_judge_20 : decode cX9_judge 20 = .ok (.getfield 71, 3) := by decide +kernel
theorem dX9_judge_23 : decode cX9_judge 23 = .ok (.iload_n 1, 1) := by decide +kernel
theorem dX9_judge_24 : decode cX9_judge 24 = .ok (.iaload, 1) := by decide +kernel
theorem dX9_judge_25 : decode cX9_judge 25 = .ok (.ifCond .ge 6, 3) := by decide +kernel
theorem dX9_judge_28 : decode cX9_judge 28 = .ok (.bipush (-11), 2) := by decide +kernel
theorem dX9_judge_30 : decode cX9_judge 30 = .ok (.ireturn, 1) := by decide +kernel
theorem dX9_judge_31 : decode cX9_judge 31 = .ok (.aload_n 0, 1) := by decide +kernel
theorem dX9_judge_32 : decode cX9_judge 32 = .ok (.getfield 71, 3) := by decide +kernel
theorem dX9_judge_35 : decode cX9_judge 35 = .ok (.iload_n 1, 1) := by decide +kernel
theorem dX9_judge_36 : decode cX9_judge 36 = .ok (.iaload, 1) := by decide +kernel
theorem dX9_judge_37 : decode cX9_judge 37 = .ok (.bipush 50, 2) := by decide +kernel
theorem dX9_judge_39 : decode cX9_judge 39 = .ok (.if_icmp .eq 6, 3) := by decide +kernel
theorem dX9_judge_42 : decode cX9_judge 42 = .ok (.bipush (-12), 2) := by decide +kernel
theorem dX9_judge_44 : decode cX9_judge 44 = .ok (.ireturn, 1) := by decide +kernel
theorem dX9_judge_45 : decode cX9_judge 45 = .ok (.aload_n 0, 1) := by decide +kernel
theorem dX9_judge_46 : decode cX9_judge 46 = .ok (.iload_n 1, 1) := by decide +kernel
theorem dX9_judge_47 : decode cX9_judge 47 = .ok (.invokevirtual 302, 3) := by decide +kernel
theorem dX9_judge_50 : decode cX9_judge 50 = .ok (.iload_n 2, 1) := by decide +kernel
theorem dX9_judge_51 : decode cX9_judge 51 = .ok (.ifCond .ne 10, 3) := by decide +kernel
theorem dX9_judge_54 : decode cX9_judge 54 = .ok (.aload_n 0, 1) := by decide +kernel
theorem dX9_judge_55 : decode cX9_judge 55 = .ok (.getfield 285, 3) := by decide +kernel
theorem dX9_judge_58 : decode cX9_judge 58 = .ok (.goto 19, 3) := by decide +kernel
theorem dX9_judge_61 : decode cX9_judge 61 = .ok (.aload_n 0, 1) := by decide +kernel
theorem dX9_judge_62 : decode cX9_judge 62 = .ok (.getfield 285, 3) := by decide +kernel
theorem dX9_judge_65 : decode cX9_judge 65 = .ok (.ifCond .lt 8, 3) := by decide +kernel
theorem dX9_judge_68 : decode cX9_judge 68 = .ok (.bipush (-2), 2) := by decide +kernel
theorem dX9_judge_70 : decode cX9_judge 70 = .ok (.goto 7, 3) := by decide +kernel
theorem dX9_judge_73 : decode cX9_judge 73 = .ok (.aload_n 0, 1) := by decide +kernel
theorem dX9_judge_74 : decode cX9_judge 74 = .ok (.getfield 288, 3) := by decide +kernel
theorem dX9_judge_77 : decode cX9_judge 77 = .ok (.ireturn, 1) := by decide +kernel
theorem dX9_chance_0 : decode cX9_chance 0 = .ok (.iload_n 1, 1) := by decide +kernel
theorem dX9_chance_1 : decode cX9_chance 1 = .ok (.invokestatic 118, 3) := by decide +kernel
theorem dX9_chance_4 : decode cX9_chance 4 = .ok (.ifCond .eq 24, 3) := by decide +kernel
theorem dX9_chance_7 : decode cX9_chance 7 = .ok (.iload_n 2, 1) := by decide +kernel
theorem dX9_chance_8 : decode cX9_chance 8 = .ok (.i2l, 1) := by decide +kernel
theorem dX9_chance_9 : decode cX9_chance 9 = .ok (.lconst 0, 1) := by decide +kernel
theorem dX9_chance_10 : decode cX9_chance 10 = .ok (.lconst 1, 1) := by decide +kernel
theorem dX9_chance_11 : decode cX9_chance 11 = .ok (.invokestatic 99, 3) := by decide +kernel
theorem dX9_chance_14 : decode cX9_chance 14 = .ok (.ifCond .eq 14, 3) := by decide +kernel
theorem dX9_chance_17 : decode cX9_chance 17 = .ok (.aload_n 0, 1) := by decide +kernel
theorem dX9_chance_18 : decode cX9_chance 18 = .ok (.getfield 71, 3) := by decide +kernel
theorem dX9_chance_21 : decode cX9_chance 21 = .ok (.iload_n 1, 1) := by decide +kernel
theorem dX9_chance_22 : decode cX9_chance 22 = .ok (.iaload, 1) := by decide +kernel
theorem dX9_chance_23 : decode cX9_chance 23 = .ok (.bipush 50, 2) := by decide +kernel
theorem dX9_chance_25 : decode cX9_chance 25 = .ok (.if_icmp .eq 7, 3) := by decide +kernel
theorem dX9_chance_28 : decode cX9_chance 28 = .ok (.ldc2_w 260, 3) := by decide +kernel
theorem dX9_chance_31 : decode cX9_chance 31 = .ok (.lreturn, 1) := by decide +kernel
theorem dX9_chance_32 : decode cX9_chance 32 = .ok (.aload_n 0, 1) := by decide +kernel
theorem dX9_chance_33 : decode cX9_chance 33 = .ok (.iload_n 1, 1) := by decide +kernel
theorem dX9_chance_34 : decode cX9_chance 34 = .ok (.invokevirtual 302, 3) := by decide +kernel
theorem dX9_chance_37 : decode cX9_chance 37 = .ok (.aload_n 0, 1) := by decide +kernel
theorem dX9_chance_38 : decode cX9_chance 38 = .ok (.getfield 285, 3) := by decide +kernel
theorem dX9_chance_41 : decode cX9_chance 41 = .ok (.ifCond .lt 6, 3) := by decide +kernel
theorem dX9_chance_44 : decode cX9_chance 44 = .ok (.iload_n 2, 1) := by decide +kernel
theorem dX9_chance_45 : decode cX9_chance 45 = .ok (.i2l, 1) := by decide +kernel
theorem dX9_chance_46 : decode cX9_chance 46 = .ok (.lreturn, 1) := by decide +kernel
theorem dX9_chance_47 : decode cX9_chance 47 = .ok (.aload_n 0, 1) := by decide +kernel
theorem dX9_chance_48 : decode cX9_chance 48 = .ok (.getfield 291, 3) := by decide +kernel
theorem dX9_chance_51 : decode cX9_chance 51 = .ok (.aload_n 0, 1) := by decide +kernel
theorem dX9_chance_52 : decode cX9_chance 52 = .ok (.getfield 295, 3) := by decide +kernel
theorem dX9_chance_55 : decode cX9_chance 55 = .ok (.invokestatic 252, 3) := by decide +kernel
theorem dX9_chance_58 : decode cX9_chance 58 = .ok (.lstore_n 3, 1) := by decide +kernel
theorem dX9_chance_59 : decode cX9_chance 59 = .ok (.iload_n 2, 1) := by decide +kernel
theorem dX9_chance_60 : decode cX9_chance 60 = .ok (.ifCond .ne 12, 3) := by decide +kernel
theorem dX9_chance_63 : decode cX9_chance 63 = .ok (.aload_n 0, 1) := by decide +kernel
theorem dX9_chance_64 : decode cX9_chance 64 = .ok (.getfield 291, 3) := by decide +kernel
theorem dX9_chance_67 : decode cX9_chance 67 = .ok (.lload_n 3, 1) := by decide +kernel
theorem dX9_chance_68 : decode cX9_chance 68 = .ok (.ldiv, 1) := by decide +kernel
theorem dX9_chance_69 : decode cX9_chance 69 = .ok (.goto 9, 3) := by decide +kernel
theorem dX9_chance_72 : decode cX9_chance 72 = .ok (.aload_n 0, 1) := by decide +kernel
theorem dX9_chance_73 : decode cX9_chance 73 = .ok (.getfield 295, 3) := by decide +kernel
theorem dX9_chance_76 : decode cX9_chance 76 = .ok (.lload_n 3, 1) := by decide +kernel
theorem dX9_chance_77 : decode cX9_chance 77 = .ok (.ldiv, 1) := by decide +kernel
theorem dX9_chance_78 : decode cX9_chance 78 = .ok (.lreturn, 1) := by decide +kernel
theorem dX9_seen_0 : decode cX9_seen 0 = .ok (.iload_n 2, 1) := by decide +kernel
theorem dX9_seen_1 : decode cX9_seen 1 = .ok (.i2l, 1) := by decide +kernel
theorem dX9_seen_2 : decode cX9_seen 2 = .ok (.lconst 0, 1) := by decide +kernel
theorem dX9_seen_3 : decode cX9_seen 3 = .ok (.ldc2_w 103, 3) := by decide +kernel
theorem dX9_seen_6 : decode cX9_seen 6 = .ok (.invokestatic 99, 3) := by decide +kernel
theorem dX9_seen_9 : decode cX9_seen 9 = .ok (.ifCond .eq 14, 3) := by decide +kernel
theorem dX9_seen_12 : decode cX9_seen 12 = .ok (.iload_n 1, 1) := by decide +kernel
theorem dX9_seen_13 : decode cX9_seen 13 = .ok (.i2l, 1) := by decide +kernel
theorem dX9_seen_14 : decode cX9_seen 14 = .ok (.lconst 0, 1) := by decide +kernel
theorem dX9_seen_15 : decode cX9_seen 15 = .ok (.iload_n 2, 1) := by decide +kernel
theorem dX9_seen_16 : decode cX9_seen 16 = .ok (.i2l, 1) := by decide +kernel
theorem dX9_seen_17 : decode cX9_seen 17 = .ok (.invokestatic 99, 3) := by decide +kernel
theorem dX9_seen_20 : decode cX9_seen 20 = .ok (.ifCond .ne 5, 3) := by decide +kernel
theorem dX9_seen_23 : decode cX9_seen 23 = .ok (.iconst (-1), 1) := by decide +kernel
theorem dX9_seen_24 : decode cX9_seen 24 = .ok (.ireturn, 1) := by decide +kernel
theorem dX9_seen_25 : decode cX9_seen 25 = .ok (.iconst 0, 1) := by decide +kernel
theorem dX9_seen_26 : decode cX9_seen 26 = .ok (.istore_n 3, 1) := by decide +kernel
theorem dX9_seen_27 : decode cX9_seen 27 = .ok (.ldc2_w 274, 3) := by decide +kernel
theorem dX9_seen_30 : decode cX9_seen 30 = .ok (.lstore 4, 2) := by decide +kernel
theorem dX9_seen_32 : decode cX9_seen 32 = .ok (.iconst 0, 1) := by decide +kernel
theorem dX9_seen_33 : decode cX9_seen 33 = .ok (.istore 6, 2) := by decide +kernel
theorem dX9_seen_35 : decode cX9_seen 35 = .ok (.iload 6, 2) := by decide +kernel
theorem dX9_seen_37 : decode cX9_seen 37 = .ok (.bipush 12, 2) := by decide +kernel
theorem dX9_seen_39 : decode cX9_seen 39 = .ok (.if_icmp .gt 82, 3) := by decide +kernel
theorem dX9_seen_42 : decode cX9_seen 42 = .ok (.lconst 1, 1) := by decide +kernel
theorem dX9_seen_43 : decode cX9_seen 43 = .ok (.lstore 7, 2) := by decide +kernel
theorem dX9_seen_45 : decode cX9_seen 45 = .ok (.iconst 0, 1) := by decide +kernel
theorem dX9_seen_46 : decode cX9_seen 46 = .ok (.istore 9, 2) := by decide +kernel
theorem dX9_seen_48 : decode cX9_seen 48 = .ok (.iload 9, 2) := by decide +kernel
theorem dX9_seen_50 : decode cX9_seen 50 = .ok (.iload_n 2, 1) := by decide +kernel
theorem dX9_seen_51 : decode cX9_seen 51 = .ok (.if_icmp .ge 32, 3) := by decide +kernel
theorem dX9_seen_54 : decode cX9_seen 54 = .ok (.lload 7, 2) := by decide +kernel
theorem dX9_seen_56 : decode cX9_seen 56 = .ok (.iload 9, 2) := by decide +kernel
theorem dX9_seen_58 : decode cX9_seen 58 = .ok (.iload_n 1, 1) := by decide +kernel
theorem dX9_seen_59 : decode cX9_seen 59 = .ok (.if_icmp .ge 9, 3) := by decide +kernel
theorem dX9_seen_62 : decode cX9_seen 62 = .ok (.iload 6, 2) := by decide +kernel
theorem dX9_seen_64 : decode cX9_seen 64 = .ok (.i2l, 1) := by decide +kernel
theorem dX9_seen_65 : decode cX9_seen 65 = .ok (.goto 9, 3) := by decide +kernel
theorem dX9_seen_68 : decode cX9_seen 68 = .ok (.bipush 12, 2) := by decide +kernel
theorem dX9_seen_70 : decode cX9_seen 70 = .ok (.iload 6, 2) := by decide +kernel
theorem dX9_seen_72 : decode cX9_seen 72 = .ok (.isub, 1) := by decide +kernel
theorem dX9_seen_73 : decode cX9_seen 73 = .ok (.i2l, 1) := by decide +kernel
theorem dX9_seen_74 : decode cX9_seen 74 = .ok (.lmul, 1) := by decide +kernel
theorem dX9_seen_75 : decode cX9_seen 75 = .ok (.lstore 7, 2) := by decide +kernel
theorem dX9_seen_77 : decode cX9_seen 77 = .ok (.iinc 9 1, 3) := by decide +kernel
theorem dX9_seen_80 : decode cX9_seen 80 = .ok (.goto (-32), 3) := by decide +kernel
theorem dX9_seen_83 : decode cX9_seen 83 = .ok (.lload 7, 2) := by decide +kernel
theorem dX9_seen_85 : decode cX9_seen 85 = .ok (.lload 4, 2) := by decide +kernel
theorem dX9_seen_87 : decode cX9_seen 87 = .ok (.lcmp, 1) := by decide +kernel
theorem dX9_seen_88 : decode cX9_seen 88 = .ok (.ifCond .le 8, 3) := by decide +kernel
theorem dX9_seen_91 : decode cX9_seen 91 = .ok (.iload 6, 2) := by decide +kernel
theorem dX9_seen_93 : decode cX9_seen 93 = .ok (.goto 4, 3) := by decide +kernel
theorem dX9_seen_96 : decode cX9_seen 96 = .ok (.iload_n 3, 1) := by decide +kernel
theorem dX9_seen_97 : decode cX9_seen 97 = .ok (.istore_n 3, 1) := by decide +kernel
theorem dX9_seen_98 : decode cX9_seen 98 = .ok (.lload 7, 2) := by decide +kernel
theorem dX9_seen_100 : decode cX9_seen 100 = .ok (.lload 4, 2) := by decide +kernel
theorem dX9_seen_102 : decode cX9_seen 102 = .ok (.lcmp, 1) := by decide +kernel
theorem dX9_seen_103 : decode cX9_seen 103 = .ok (.ifCond .le 8, 3) := by decide +kernel
theorem dX9_seen_106 : decode cX9_seen 106 = .ok (.lload 7, 2) := by decide +kernel
theorem dX9_seen_108 : decode cX9_seen 108 = .ok (.goto 5, 3) := by decide +kernel
theorem dX9_seen_111 : decode cX9_seen 111 = .ok (.lload 4, 2) := by decide +kernel
theorem dX9_seen_113 : decode cX9_seen 113 = .ok (.lstore 4, 2) := by decide +kernel
theorem dX9_seen_115 : decode cX9_seen 115 = .ok (.iinc 6 1, 3) := by decide +kernel
theorem dX9_seen_118 : decode cX9_seen 118 = .ok (.goto (-83), 3) := by decide +kernel
theorem dX9_seen_121 : decode cX9_seen 121 = .ok (.iload_n 3, 1) := by decide +kernel
theorem dX9_seen_122 : decode cX9_seen 122 = .ok (.ireturn, 1) := by decide +kernel
theorem dX9_drawn_0 : decode cX9_drawn 0 = .ok (.iload_n 2, 1) := by decide +kernel
theorem dX9_drawn_1 : decode cX9_drawn 1 = .ok (.i2l, 1) := by decide +kernel
theorem dX9_drawn_2 : decode cX9_drawn 2 = .ok (.lconst 1, 1) := by decide +kernel
theorem dX9_drawn_3 : decode cX9_drawn 3 = .ok (.ldc2_w 306, 3) := by decide +kernel
theorem dX9_drawn_6 : decode cX9_drawn 6 = .ok (.invokestatic 99, 3) := by decide +kernel
theorem dX9_drawn_9 : decode cX9_drawn 9 = .ok (.ifCond .eq 11, 3) := by decide +kernel
theorem dX9_drawn_12 : decode cX9_drawn 12 = .ok (.aload_n 0, 1) := by decide +kernel
theorem dX9_drawn_13 : decode cX9_drawn 13 = .ok (.iload_n 3, 1) := by decide +kernel
theorem dX9_drawn_14 : decode cX9_drawn 14 = .ok (.invokevirtual 124, 3) := by decide +kernel
theorem dX9_drawn_17 : decode cX9_drawn 17 = .ok (.ifCond .ne 5, 3) := by decide +kernel
theorem dX9_drawn_20 : decode cX9_drawn 20 = .ok (.iconst (-1), 1) := by decide +kernel
theorem dX9_drawn_21 : decode cX9_drawn 21 = .ok (.ireturn, 1) := by decide +kernel
theorem dX9_drawn_22 : decode cX9_drawn 22 = .ok (.aload_n 0, 1) := by decide +kernel
theorem dX9_drawn_23 : decode cX9_drawn 23 = .ok (.invokevirtual 241, 3) := by decide +kernel
theorem dX9_drawn_26 : decode cX9_drawn 26 = .ok (.iload_n 1, 1) := by decide +kernel
theorem dX9_drawn_27 : decode cX9_drawn 27 = .ok (.istore 4, 2) := by decide +kernel
theorem dX9_drawn_29 : decode cX9_drawn 29 = .ok (.iconst 0, 1) := by decide +kernel
theorem dX9_drawn_30 : decode cX9_drawn 30 = .ok (.istore 5, 2) := by decide +kernel
theorem dX9_drawn_32 : decode cX9_drawn 32 = .ok (.iconst 0, 1) := by decide +kernel
theorem dX9_drawn_33 : decode cX9_drawn 33 = .ok (.istore 6, 2) := by decide +kernel
theorem dX9_drawn_35 : decode cX9_drawn 35 = .ok (.iload 6, 2) := by decide +kernel
theorem dX9_drawn_37 : decode cX9_drawn 37 = .ok (.iload_n 2, 1) := by decide +kernel
theorem dX9_drawn_38 : decode cX9_drawn 38 = .ok (.if_icmp .ge 146, 3) := by decide +kernel
theorem dX9_drawn_41 : decode cX9_drawn 41 = .ok (.aload_n 0, 1) := by decide +kernel
theorem dX9_drawn_42 : decode cX9_drawn 42 = .ok (.invokevirtual 225, 3) := by decide +kernel
theorem dX9_drawn_45 : decode cX9_drawn 45 = .ok (.istore 7, 2) := by decide +kernel
theorem dX9_drawn_47 : decode cX9_drawn 47 = .ok (.aload_n 0, 1) := by decide +kernel
theorem dX9_drawn_48 : decode cX9_drawn 48 = .ok (.getfield 22, 3) := by decide +kernel
theorem dX9_drawn_51 : decode cX9_drawn 51 = .ok (.iconst 0, 1) := by decide +kernel
theorem dX9_drawn_52 : decode cX9_drawn 52 = .ok (.iaload, 1) := by decide +kernel
theorem dX9_drawn_53 : decode cX9_drawn 53 = .ok (.istore 8, 2) := by decide +kernel
theorem dX9_drawn_55 : decode cX9_drawn 55 = .ok (.iconst 0, 1) := by decide +kernel
theorem dX9_drawn_56 : decode cX9_drawn 56 = .ok (.istore 9, 2) := by decide +kernel
theorem dX9_drawn_58 : decode cX9_drawn 58 = .ok (.aload_n 0, 1) := by decide +kernel
theorem dX9_drawn_59 : decode cX9_drawn 59 = .ok (.iload 9, 2) := by decide +kernel
theorem dX9_drawn_61 : decode cX9_drawn 61 = .ok (.iload 7, 2) := by decide +kernel
theorem dX9_drawn_63 : decode cX9_drawn 63 = .ok (.invokevirtual 228, 3) := by decide +kernel
theorem dX9_drawn_66 : decode cX9_drawn 66 = .ok (.ifCond .ne 93, 3) := by decide +kernel
theorem dX9_drawn_69 : decode cX9_drawn 69 = .ok (.iload 9, 2) := by decide +kernel
theorem dX9_drawn_71 : decode cX9_drawn 71 = .ok (.iload 7, 2) := by decide +kernel
theorem dX9_drawn_73 : decode cX9_drawn 73 = .ok (.iload 8, 2) := by decide +kernel
theorem dX9_drawn_75 : decode cX9_drawn 75 = .ok (.invokestatic 207, 3) := by decide +kernel
theorem dX9_drawn_78 : decode cX9_drawn 78 = .ok (.istore 10, 2) := by decide +kernel
theorem dX9_drawn_80 : decode cX9_drawn 80 = .ok (.aload_n 0, 1) := by decide +kernel
theorem dX9_drawn_81 : decode cX9_drawn 81 = .ok (.getfield 50, 3) := by decide +kernel
theorem dX9_drawn_84 : decode cX9_drawn 84 = .ok (.iload 10, 2) := by decide +kernel
theorem dX9_drawn_86 : decode cX9_drawn 86 = .ok (.iaload, 1) := by decide +kernel
theorem dX9_drawn_87 : decode cX9_drawn 87 = .ok (.bipush 9, 2) := by decide +kernel
theorem dX9_drawn_89 : decode cX9_drawn 89 = .ok (.if_icmp .eq 54, 3) := by decide +kernel
theorem dX9_drawn_92 : decode cX9_drawn 92 = .ok (.iload 4, 2) := by decide +kernel
theorem dX9_drawn_94 : decode cX9_drawn 94 = .ok (.ldc_w 308, 3) := by decide +kernel
theorem dX9_drawn_97 : decode cX9_drawn 97 = .ok (.imul, 1) := by decide +kernel
theorem dX9_drawn_98 : decode cX9_drawn 98 = .ok (.sipush 12345, 3) := by decide +kernel
theorem dX9_drawn_101 : decode cX9_drawn 101 = .ok (.iadd, 1) := by decide +kernel
theorem dX9_drawn_102 : decode cX9_drawn 102 = .ok (.istore 4, 2) := by decide +kernel
theorem dX9_drawn_104 : decode cX9_drawn 104 = .ok (.iload 4, 2) := by decide +kernel
theorem dX9_drawn_106 : decode cX9_drawn 106 = .ok (.bipush 8, 2) := by decide +kernel
theorem dX9_drawn_108 : decode cX9_drawn 108 = .ok (.iushr, 1) := by decide +kernel
theorem dX9_drawn_109 : decode cX9_drawn 109 = .ok (.bipush 12, 2) := by decide +kernel
theorem dX9_drawn_111 : decode cX9_drawn 111 = .ok (.irem, 1) := by decide +kernel
theorem dX9_drawn_112 : decode cX9_drawn 112 = .ok (.aload_n 0, 1) := by decide +kernel
theorem dX9_drawn_113 : decode cX9_drawn 113 = .ok (.getfield 53, 3) := by decide +kernel
theorem dX9_drawn_116 : decode cX9_drawn 116 = .ok (.iload 10, 2) := by decide +kernel
theorem dX9_drawn_118 : decode cX9_drawn 118 = .ok (.iaload, 1) := by decide +kernel
theorem dX9_drawn_119 : decode cX9_drawn 119 = .ok (.if_icmp .ge 20, 3) := by decide +kernel
theorem dX9_drawn_122 : decode cX9_drawn 122 = .ok (.iload 7, 2) := by decide +kernel
theorem dX9_drawn_124 : decode cX9_drawn 124 = .ok (.iconst 1, 1) := by decide +kernel
theorem dX9_drawn_125 : decode cX9_drawn 125 = .ok (.aload_n 0, 1) := by decide +kernel
theorem dX9_drawn_126 : decode cX9_drawn 126 = .ok (.getfield 50, 3) := by decide +kernel
theorem dX9_drawn_129 : decode cX9_drawn 129 = .ok (.iload 10, 2) := by decide +kernel
theorem dX9_drawn_131 : decode cX9_drawn 131 = .ok (.iaload, 1) := by decide +kernel
theorem dX9_drawn_132 : decode cX9_drawn 132 = .ok (.ishl, 1) := by decide +kernel
theorem dX9_drawn_133 : decode cX9_drawn 133 = .ok (.iconst (-1), 1) := by decide +kernel
theorem dX9_drawn_134 : decode cX9_drawn 134 = .ok (.ixor, 1) := by decide +kernel
theorem dX9_drawn_135 : decode cX9_drawn 135 = .ok (.iand, 1) := by decide +kernel
theorem dX9_drawn_136 : decode cX9_drawn 136 = .ok (.goto 5, 3) := by decide +kernel
theorem dX9_drawn_139 : decode cX9_drawn 139 = .ok (.iload 7, 2) := by decide +kernel
theorem dX9_drawn_141 : decode cX9_drawn 141 = .ok (.istore 7, 2) := by decide +kernel
theorem dX9_drawn_143 : decode cX9_drawn 143 = .ok (.aload_n 0, 1) := by decide +kernel
theorem dX9_drawn_144 : decode cX9_drawn 144 = .ok (.iload 8, 2) := by decide +kernel
theorem dX9_drawn_146 : decode cX9_drawn 146 = .ok (.iload 7, 2) := by decide +kernel
theorem dX9_drawn_148 : decode cX9_drawn 148 = .ok (.invokevirtual 204, 3) := by decide +kernel
theorem dX9_drawn_151 : decode cX9_drawn 151 = .ok (.istore 8, 2) := by decide +kernel
theorem dX9_drawn_153 : decode cX9_drawn 153 = .ok (.iinc 9 1, 3) := by decide +kernel
theorem dX9_drawn_156 : decode cX9_drawn 156 = .ok (.goto (-98), 3) := by decide +kernel
theorem dX9_drawn_159 : decode cX9_drawn 159 = .ok (.iload 5, 2) := by decide +kernel
theorem dX9_drawn_161 : decode cX9_drawn 161 = .ok (.iload 7, 2) := by decide +kernel
theorem dX9_drawn_163 : decode cX9_drawn 163 = .ok (.iload_n 3, 1) := by decide +kernel
theorem dX9_drawn_164 : decode cX9_drawn 164 = .ok (.invokestatic 133, 3) := by decide +kernel
theorem dX9_drawn_167 : decode cX9_drawn 167 = .ok (.ifCond .eq 7, 3) := by decide +kernel
theorem dX9_drawn_170 : decode cX9_drawn 170 = .ok (.iconst 1, 1) := by decide +kernel
theorem dX9_drawn_171 : decode cX9_drawn 171 = .ok (.goto 4, 3) := by decide +kernel
theorem dX9_drawn_174 : decode cX9_drawn 174 = .ok (.iconst 0, 1) := by decide +kernel
theorem dX9_drawn_175 : decode cX9_drawn 175 = .ok (.iadd, 1) := by decide +kernel
theorem dX9_drawn_176 : decode cX9_drawn 176 = .ok (.istore 5, 2) := by decide +kernel
theorem dX9_drawn_178 : decode cX9_drawn 178 = .ok (.iinc 6 1, 3) := by decide +kernel
theorem dX9_drawn_181 : decode cX9_drawn 181 = .ok (.goto (-146), 3) := by decide +kernel
theorem dX9_drawn_184 : decode cX9_drawn 184 = .ok (.iload 5, 2) := by decide +kernel
theorem dX9_drawn_186 : decode cX9_drawn 186 = .ok (.ireturn, 1) := by decide +kernel
theorem dX9_startsAnew_0 : decode cX9_startsAnew 0 = .ok (.aload_n 0, 1) := by decide +kernel
theorem dX9_startsAnew_1 : decode cX9_startsAnew 1 = .ok (.iconst 0, 1) := by decide +kernel
theorem dX9_startsAnew_2 : decode cX9_startsAnew 2 = .ok (.putfield 309, 3) := by decide +kernel
theorem dX9_startsAnew_5 : decode cX9_startsAnew 5 = .ok (.aload_n 0, 1) := by decide +kernel
theorem dX9_startsAnew_6 : decode cX9_startsAnew 6 = .ok (.aload_n 0, 1) := by decide +kernel
theorem dX9_startsAnew_7 : decode cX9_startsAnew 7 = .ok (.invokevirtual 225, 3) := by decide +kernel
theorem dX9_startsAnew_10 : decode cX9_startsAnew 10 = .ok (.putfield 139, 3) := by decide +kernel
theorem dX9_startsAnew_13 : decode cX9_startsAnew 13 = .ok (.aload_n 0, 1) := by decide +kernel
theorem dX9_startsAnew_14 : decode cX9_startsAnew 14 = .ok (.aload_n 0, 1) := by decide +kernel
theorem dX9_startsAnew_15 : decode cX9_startsAnew 15 = .ok (.getfield 22, 3) := by decide +kernel
theorem dX9_startsAnew_18 : decode cX9_startsAnew 18 = .ok (.iconst 0, 1) := by decide +kernel
theorem dX9_startsAnew_19 : decode cX9_startsAnew 19 = .ok (.iaload, 1) := by decide +kernel
theorem dX9_startsAnew_20 : decode cX9_startsAnew 20 = .ok (.putfield 313, 3) := by decide +kernel
theorem dX9_startsAnew_23 : decode cX9_startsAnew 23 = .ok (.aload_n 0, 1) := by decide +kernel
theorem dX9_startsAnew_24 : decode cX9_startsAnew 24 = .ok (.iconst 0, 1) := by decide +kernel
theorem dX9_startsAnew_25 : decode cX9_startsAnew 25 = .ok (.putfield 316, 3) := by decide +kernel
theorem dX9_startsAnew_28 : decode cX9_startsAnew 28 = .ok (.return_, 1) := by decide +kernel
theorem dX9_step_0 : decode cX9_step 0 = .ok (.iload_n 1, 1) := by decide +kernel
theorem dX9_step_1 : decode cX9_step 1 = .ok (.i2l, 1) := by decide +kernel
theorem dX9_step_2 : decode cX9_step 2 = .ok (.lconst 0, 1) := by decide +kernel
theorem dX9_step_3 : decode cX9_step 3 = .ok (.ldc2_w 319, 3) := by decide +kernel
theorem dX9_step_6 : decode cX9_step 6 = .ok (.invokestatic 99, 3) := by decide +kernel
theorem dX9_step_9 : decode cX9_step 9 = .ok (.ifCond .ne 5, 3) := by decide +kernel
theorem dX9_step_12 : decode cX9_step 12 = .ok (.iconst (-1), 1) := by decide +kernel
theorem dX9_step_13 : decode cX9_step 13 = .ok (.ireturn, 1) := by decide +kernel
theorem dX9_step_14 : decode cX9_step 14 = .ok (.aload_n 0, 1) := by decide +kernel
theorem dX9_step_15 : decode cX9_step 15 = .ok (.aload_n 0, 1) := by decide +kernel
theorem dX9_step_16 : decode cX9_step 16 = .ok (.getfield 316, 3) := by decide +kernel
theorem dX9_step_19 : decode cX9_step 19 = .ok (.aload_n 0, 1) := by decide +kernel
theorem dX9_step_20 : decode cX9_step 20 = .ok (.getfield 139, 3) := by decide +kernel
theorem dX9_step_23 : decode cX9_step 23 = .ok (.invokevirtual 228, 3) := by decide +kernel
theorem dX9_step_26 : decode cX9_step 26 = .ok (.ifCond .eq 6, 3) := by decide +kernel
theorem dX9_step_29 : decode cX9_step 29 = .ok (.bipush (-5), 2) := by decide +kernel
theorem dX9_step_31 : decode cX9_step 31 = .ok (.ireturn, 1) := by decide +kernel
theorem dX9_step_32 : decode cX9_step 32 = .ok (.aload_n 0, 1) := by decide +kernel
theorem dX9_step_33 : decode cX9_step 33 = .ok (.invokevirtual 241, 3) := by decide +kernel
theorem dX9_step_36 : decode cX9_step 36 = .ok (.aload_n 0, 1) := by decide +kernel
theorem dX9_step_37 : decode cX9_step 37 = .ok (.getfield 316, 3) := by decide +kernel
theorem dX9_step_40 : decode cX9_step 40 = .ok (.aload_n 0, 1) := by decide +kernel
theorem dX9_step_41 : decode cX9_step 41 = .ok (.getfield 139, 3) := by decide +kernel
theorem dX9_step_44 : decode cX9_step 44 = .ok (.aload_n 0, 1) := by decide +kernel
theorem dX9_step_45 : decode cX9_step 45 = .ok (.getfield 313, 3) := by decide +kernel
theorem dX9_step_48 : decode cX9_step 48 = .ok (.invokestatic 207, 3) := by decide +kernel
theorem dX9_step_51 : decode cX9_step 51 = .ok (.istore_n 2, 1) := by decide +kernel
theorem dX9_step_52 : decode cX9_step 52 = .ok (.bipush 100, 2) := by decide +kernel
theorem dX9_step_54 : decode cX9_step 54 = .ok (.aload_n 0, 1) := by decide +kernel
theorem dX9_step_55 : decode cX9_step 55 = .ok (.getfield 313, 3) := by decide +kernel
theorem dX9_step_58 : decode cX9_step 58 = .ok (.imul, 1) := by decide +kernel
theorem dX9_step_59 : decode cX9_step 59 = .ok (.bipush 10, 2) := by decide +kernel
theorem dX9_step_61 : decode cX9_step 61 = .ok (.aload_n 0, 1) := by decide +kernel
theorem dX9_step_62 : decode cX9_step 62 = .ok (.getfield 50, 3) := by decide +kernel
theorem dX9_step_65 : decode cX9_step 65 = .ok (.iload_n 2, 1) := by decide +kernel
theorem dX9_step_66 : decode cX9_step 66 = .ok (.iaload, 1) := by decide +kernel
theorem dX9_step_67 : decode cX9_step 67 = .ok (.imul, 1) := by decide +kernel
theorem dX9_step_68 : decode cX9_step 68 = .ok (.iadd, 1) := by decide +kernel
theorem dX9_step_69 : decode cX9_step 69 = .ok (.istore_n 3, 1) := by decide +kernel
theorem dX9_step_70 : decode cX9_step 70 = .ok (.aload_n 0, 1) := by decide +kernel
theorem dX9_step_71 : decode cX9_step 71 = .ok (.getfield 50, 3) := by decide +kernel
theorem dX9_step_74 : decode cX9_step 74 = .ok (.iload_n 2, 1) := by decide +kernel
theorem dX9_step_75 : decode cX9_step 75 = .ok (.iaload, 1) := by decide +kernel
theorem dX9_step_76 : decode cX9_step 76 = .ok (.bipush 9, 2) := by decide +kernel
theorem dX9_step_78 : decode cX9_step 78 = .ok (.if_icmp .eq 17, 3) := by decide +kernel
theorem dX9_step_81 : decode cX9_step 81 = .ok (.iload_n 1, 1) := by decide +kernel
theorem dX9_step_82 : decode cX9_step 82 = .ok (.aload_n 0, 1) := by decide +kernel
theorem dX9_step_83 : decode cX9_step 83 = .ok (.getfield 53, 3) := by decide +kernel
theorem dX9_step_86 : decode cX9_step 86 = .ok (.iload_n 2, 1) := by decide +kernel
theorem dX9_step_87 : decode cX9_step 87 = .ok (.iaload, 1) := by decide +kernel
theorem dX9_step_88 : decode cX9_step 88 = .ok (.if_icmp .ge 7, 3) := by decide +kernel
theorem dX9_step_91 : decode cX9_step 91 = .ok (.iconst 1, 1) := by decide +kernel
theorem dX9_step_92 : decode cX9_step 92 = .ok (.goto 4, 3) := by decide +kernel
theorem dX9_step_95 : decode cX9_step 95 = .ok (.iconst 0, 1) := by decide +kernel
theorem dX9_step_96 : decode cX9_step 96 = .ok (.istore 4, 2) := by decide +kernel
theorem dX9_step_98 : decode cX9_step 98 = .ok (.aload_n 0, 1) := by decide +kernel
theorem dX9_step_99 : decode cX9_step 99 = .ok (.iload 4, 2) := by decide +kernel
theorem dX9_step_101 : decode cX9_step 101 = .ok (.ifCond .eq 21, 3) := by decide +kernel
theorem dX9_step_104 : decode cX9_step 104 = .ok (.aload_n 0, 1) := by decide +kernel
theorem dX9_step_105 : decode cX9_step 105 = .ok (.getfield 139, 3) := by decide +kernel
theorem dX9_step_108 : decode cX9_step 108 = .ok (.iconst 1, 1) := by decide +kernel
theorem dX9_step_109 : decode cX9_step 109 = .ok (.aload_n 0, 1) := by decide +kernel
theorem dX9_step_110 : decode cX9_step 110 = .ok (.getfield 50, 3) := by decide +kernel
theorem dX9_step_113 : decode cX9_step 113 = .ok (.iload_n 2, 1) := by decide +kernel
theorem dX9_step_114 : decode cX9_step 114 = .ok (.iaload, 1) := by decide +kernel
theorem dX9_step_115 : decode cX9_step 115 = .ok (.ishl, 1) := by decide +kernel
theorem dX9_step_116 : decode cX9_step 116 = .ok (.iconst (-1), 1) := by decide +kernel
theorem dX9_step_117 : decode cX9_step 117 = .ok (.ixor, 1) := by decide +kernel
theorem dX9_step_118 : decode cX9_step 118 = .ok (.iand, 1) := by decide +kernel
theorem dX9_step_119 : decode cX9_step 119 = .ok (.goto 7, 3) := by decide +kernel
theorem dX9_step_122 : decode cX9_step 122 = .ok (.aload_n 0, 1) := by decide +kernel
theorem dX9_step_123 : decode cX9_step 123 = .ok (.getfield 139, 3) := by decide +kernel
theorem dX9_step_126 : decode cX9_step 126 = .ok (.putfield 139, 3) := by decide +kernel
theorem dX9_step_129 : decode cX9_step 129 = .ok (.aload_n 0, 1) := by decide +kernel
theorem dX9_step_130 : decode cX9_step 130 = .ok (.aload_n 0, 1) := by decide +kernel
theorem dX9_step_131 : decode cX9_step 131 = .ok (.aload_n 0, 1) := by decide +kernel
theorem dX9_step_132 : decode cX9_step 132 = .ok (.getfield 313, 3) := by decide +kernel
theorem dX9_step_135 : decode cX9_step 135 = .ok (.aload_n 0, 1) := by decide +kernel
theorem dX9_step_136 : decode cX9_step 136 = .ok (.getfield 139, 3) := by decide +kernel
theorem dX9_step_139 : decode cX9_step 139 = .ok (.invokevirtual 204, 3) := by decide +kernel
theorem dX9_step_142 : decode cX9_step 142 = .ok (.putfield 313, 3) := by decide +kernel
theorem dX9_step_145 : decode cX9_step 145 = .ok (.aload_n 0, 1) := by decide +kernel
theorem dX9_step_146 : decode cX9_step 146 = .ok (.dup, 1) := by decide +kernel
theorem dX9_step_147 : decode cX9_step 147 = .ok (.getfield 316, 3) := by decide +kernel
theorem dX9_step_150 : decode cX9_step 150 = .ok (.iconst 1, 1) := by decide +kernel
theorem dX9_step_151 : decode cX9_step 151 = .ok (.iadd, 1) := by decide +kernel
theorem dX9_step_152 : decode cX9_step 152 = .ok (.putfield 316, 3) := by decide +kernel
theorem dX9_step_155 : decode cX9_step 155 = .ok (.iload 4, 2) := by decide +kernel
theorem dX9_step_157 : decode cX9_step 157 = .ok (.ifCond .eq 9, 3) := by decide +kernel
theorem dX9_step_160 : decode cX9_step 160 = .ok (.iload_n 3, 1) := by decide +kernel
theorem dX9_step_161 : decode cX9_step 161 = .ok (.iconst 1, 1) := by decide +kernel
theorem dX9_step_162 : decode cX9_step 162 = .ok (.iadd, 1) := by decide +kernel
theorem dX9_step_163 : decode cX9_step 163 = .ok (.goto 4, 3) := by decide +kernel
theorem dX9_step_166 : decode cX9_step 166 = .ok (.iload_n 3, 1) := by decide +kernel
theorem dX9_step_167 : decode cX9_step 167 = .ok (.ireturn, 1) := by decide +kernel
theorem dX9_anew_0 : decode cX9_anew 0 = .ok (.aload_n 0, 1) := by decide +kernel
theorem dX9_anew_1 : decode cX9_anew 1 = .ok (.getfield 316, 3) := by decide +kernel
theorem dX9_anew_4 : decode cX9_anew 4 = .ok (.istore_n 1, 1) := by decide +kernel
theorem dX9_anew_5 : decode cX9_anew 5 = .ok (.aload_n 0, 1) := by decide +kernel
theorem dX9_anew_6 : decode cX9_anew 6 = .ok (.aload_n 0, 1) := by decide +kernel
theorem dX9_anew_7 : decode cX9_anew 7 = .ok (.invokevirtual 225, 3) := by decide +kernel
theorem dX9_anew_10 : decode cX9_anew 10 = .ok (.putfield 139, 3) := by decide +kernel
theorem dX9_anew_13 : decode cX9_anew 13 = .ok (.aload_n 0, 1) := by decide +kernel
theorem dX9_anew_14 : decode cX9_anew 14 = .ok (.aload_n 0, 1) := by decide +kernel
theorem dX9_anew_15 : decode cX9_anew 15 = .ok (.getfield 22, 3) := by decide +kernel
theorem dX9_anew_18 : decode cX9_anew 18 = .ok (.iconst 0, 1) := by decide +kernel
theorem dX9_anew_19 : decode cX9_anew 19 = .ok (.iaload, 1) := by decide +kernel
theorem dX9_anew_20 : decode cX9_anew 20 = .ok (.putfield 313, 3) := by decide +kernel
theorem dX9_anew_23 : decode cX9_anew 23 = .ok (.aload_n 0, 1) := by decide +kernel
theorem dX9_anew_24 : decode cX9_anew 24 = .ok (.iconst 0, 1) := by decide +kernel
theorem dX9_anew_25 : decode cX9_anew 25 = .ok (.putfield 316, 3) := by decide +kernel
theorem dX9_anew_28 : decode cX9_anew 28 = .ok (.iload_n 1, 1) := by decide +kernel
theorem dX9_anew_29 : decode cX9_anew 29 = .ok (.ireturn, 1) := by decide +kernel
theorem dX9_image_0 : decode cX9_image 0 = .ok (.aload_n 0, 1) := by decide +kernel
theorem dX9_image_1 : decode cX9_image 1 = .ok (.iconst 1, 1) := by decide +kernel
theorem dX9_image_2 : decode cX9_image 2 = .ok (.putfield 309, 3) := by decide +kernel
theorem dX9_image_5 : decode cX9_image 5 = .ok (.aload_n 0, 1) := by decide +kernel
theorem dX9_image_6 : decode cX9_image 6 = .ok (.aload_n 0, 1) := by decide +kernel
theorem dX9_image_7 : decode cX9_image 7 = .ok (.getfield 139, 3) := by decide +kernel
theorem dX9_image_10 : decode cX9_image 10 = .ok (.putfield 321, 3) := by decide +kernel
theorem dX9_image_13 : decode cX9_image 13 = .ok (.aload_n 0, 1) := by decide +kernel
theorem dX9_image_14 : decode cX9_image 14 = .ok (.aload_n 0, 1) := by decide +kernel
theorem dX9_image_15 : decode cX9_image 15 = .ok (.getfield 313, 3) := by decide +kernel
theorem dX9_image_18 : decode cX9_image 18 = .ok (.putfield 324, 3) := by decide +kernel
theorem dX9_image_21 : decode cX9_image 21 = .ok (.aload_n 0, 1) := by decide +kernel
theorem dX9_image_22 : decode cX9_image 22 = .ok (.aload_n 0, 1) := by decide +kernel
theorem dX9_image_23 : decode cX9_image 23 = .ok (.getfield 316, 3) := by decide +kernel
theorem dX9_image_26 : decode cX9_image 26 = .ok (.putfield 327, 3) := by decide +kernel
theorem dX9_image_29 : decode cX9_image 29 = .ok (.aload_n 0, 1) := by decide +kernel
theorem dX9_image_30 : decode cX9_image 30 = .ok (.getfield 316, 3) := by decide +kernel
theorem dX9_image_33 : decode cX9_image 33 = .ok (.ireturn, 1) := by decide +kernel
theorem dX9_back_0 : decode cX9_back 0 = .ok (.aload_n 0, 1) := by decide +kernel
theorem dX9_back_1 : decode cX9_back 1 = .ok (.getfield 309, 3) := by decide +kernel
theorem dX9_back_4 : decode cX9_back 4 = .ok (.ifCond .ne 6, 3) := by decide +kernel
theorem dX9_back_7 : decode cX9_back 7 = .ok (.bipush (-5), 2) := by decide +kernel
theorem dX9_back_9 : decode cX9_back 9 = .ok (.ireturn, 1) := by decide +kernel
theorem dX9_back_10 : decode cX9_back 10 = .ok (.aload_n 0, 1) := by decide +kernel
theorem dX9_back_11 : decode cX9_back 11 = .ok (.aload_n 0, 1) := by decide +kernel
theorem dX9_back_12 : decode cX9_back 12 = .ok (.getfield 321, 3) := by decide +kernel
theorem dX9_back_15 : decode cX9_back 15 = .ok (.putfield 139, 3) := by decide +kernel
theorem dX9_back_18 : decode cX9_back 18 = .ok (.aload_n 0, 1) := by decide +kernel
theorem dX9_back_19 : decode cX9_back 19 = .ok (.aload_n 0, 1) := by decide +kernel
theorem dX9_back_20 : decode cX9_back 20 = .ok (.getfield 324, 3) := by decide +kernel
theorem dX9_back_23 : decode cX9_back 23 = .ok (.putfield 313, 3) := by decide +kernel
theorem dX9_back_26 : decode cX9_back 26 = .ok (.aload_n 0, 1) := by decide +kernel
theorem dX9_back_27 : decode cX9_back 27 = .ok (.aload_n 0, 1) := by decide +kernel
theorem dX9_back_28 : decode cX9_back 28 = .ok (.getfield 327, 3) := by decide +kernel
theorem dX9_back_31 : decode cX9_back 31 = .ok (.putfield 316, 3) := by decide +kernel
theorem dX9_back_34 : decode cX9_back 34 = .ok (.aload_n 0, 1) := by decide +kernel
theorem dX9_back_35 : decode cX9_back 35 = .ok (.getfield 316, 3) := by decide +kernel
theorem dX9_back_38 : decode cX9_back 38 = .ok (.ireturn, 1) := by decide +kernel
theorem dX9_isBody_0 : decode cX9_isBody 0 = .ok (.iload_n 1, 1) := by decide +kernel
theorem dX9_isBody_1 : decode cX9_isBody 1 = .ok (.i2l, 1) := by decide +kernel
theorem dX9_isBody_2 : decode cX9_isBody 2 = .ok (.lconst 0, 1) := by decide +kernel
theorem dX9_isBody_3 : decode cX9_isBody 3 = .ok (.aload_n 0, 1) := by decide +kernel
theorem dX9_isBody_4 : decode cX9_isBody 4 = .ok (.getfield 330, 3) := by decide +kernel
theorem dX9_isBody_7 : decode cX9_isBody 7 = .ok (.iconst 1, 1) := by decide +kernel
theorem dX9_isBody_8 : decode cX9_isBody 8 = .ok (.isub, 1) := by decide +kernel
theorem dX9_isBody_9 : decode cX9_isBody 9 = .ok (.i2l, 1) := by decide +kernel
theorem dX9_isBody_10 : decode cX9_isBody 10 = .ok (.invokestatic 99, 3) := by decide +kernel
theorem dX9_isBody_13 : decode cX9_isBody 13 = .ok (.ireturn, 1) := by decide +kernel
theorem dX9_kindOf_0 : decode cX9_kindOf 0 = .ok (.aload_n 0, 1) := by decide +kernel
theorem dX9_kindOf_1 : decode cX9_kindOf 1 = .ok (.getfield 65, 3) := by decide +kernel
theorem dX9_kindOf_4 : decode cX9_kindOf 4 = .ok (.iload_n 1, 1) := by decide +kernel
theorem dX9_kindOf_5 : decode cX9_kindOf 5 = .ok (.iaload, 1) := by decide +kernel
theorem dX9_kindOf_6 : decode cX9_kindOf 6 = .ok (.ireturn, 1) := by decide +kernel
theorem dX9_body_0 : decode cX9_body 0 = .ok (.iload_n 1, 1) := by decide +kernel
theorem dX9_body_1 : decode cX9_body 1 = .ok (.i2l, 1) := by decide +kernel
theorem dX9_body_2 : decode cX9_body 2 = .ok (.lconst 0, 1) := by decide +kernel
theorem dX9_body_3 : decode cX9_body 3 = .ok (.ldc2_w 333, 3) := by decide +kernel
theorem dX9_body_6 : decode cX9_body 6 = .ok (.invokestatic 99, 3) := by decide +kernel
theorem dX9_body_9 : decode cX9_body 9 = .ok (.ifCond .ne 5, 3) := by decide +kernel
theorem dX9_body_12 : decode cX9_body 12 = .ok (.iconst (-1), 1) := by decide +kernel
theorem dX9_body_13 : decode cX9_body 13 = .ok (.ireturn, 1) := by decide +kernel
theorem dX9_body_14 : decode cX9_body 14 = .ok (.aload_n 0, 1) := by decide +kernel
theorem dX9_body_15 : decode cX9_body 15 = .ok (.getfield 330, 3) := by decide +kernel
theorem dX9_body_18 : decode cX9_body 18 = .ok (.bipush 50, 2) := by decide +kernel
theorem dX9_body_20 : decode cX9_body 20 = .ok (.if_icmp .ne 6, 3) := by decide +kernel
theorem dX9_body_23 : decode cX9_body 23 = .ok (.bipush (-3), 2) := by decide +kernel
theorem dX9_body_25 : decode cX9_body 25 = .ok (.ireturn, 1) := by decide +kernel
theorem dX9_body_26 : decode cX9_body 26 = .ok (.aload_n 0, 1) := by decide +kernel
theorem dX9_body_27 : decode cX9_body 27 = .ok (.getfield 65, 3) := by decide +kernel
theorem dX9_body_30 : decode cX9_body 30 = .ok (.aload_n 0, 1) := by decide +kernel
theorem dX9_body_31 : decode cX9_body 31 = .ok (.getfield 330, 3) := by decide +kernel
theorem dX9_body_34 : decode cX9_body 34 = .ok (.iload_n 1, 1) := by decide +kernel
theorem dX9_body_35 : decode cX9_body 35 = .ok (.iastore, 1) := by decide +kernel
theorem dX9_body_36 : decode cX9_body 36 = .ok (.aload_n 0, 1) := by decide +kernel
theorem dX9_body_37 : decode cX9_body 37 = .ok (.dup, 1) := by decide +kernel
theorem dX9_body_38 : decode cX9_body 38 = .ok (.getfield 330, 3) := by decide +kernel
theorem dX9_body_41 : decode cX9_body 41 = .ok (.iconst 1, 1) := by decide +kernel
theorem dX9_body_42 : decode cX9_body 42 = .ok (.iadd, 1) := by decide +kernel
theorem dX9_body_43 : decode cX9_body 43 = .ok (.putfield 330, 3) := by decide +kernel
theorem dX9_body_46 : decode cX9_body 46 = .ok (.aload_n 0, 1) := by decide +kernel
theorem dX9_body_47 : decode cX9_body 47 = .ok (.getfield 330, 3) := by decide +kernel
theorem dX9_body_50 : decode cX9_body 50 = .ok (.iconst 1, 1) := by decide +kernel
theorem dX9_body_51 : decode cX9_body 51 = .ok (.isub, 1) := by decide +kernel
theorem dX9_body_52 : decode cX9_body 52 = .ok (.ireturn, 1) := by decide +kernel
theorem dX9_above_0 : decode cX9_above 0 = .ok (.iload_n 0, 1) := by decide +kernel
theorem dX9_above_1 : decode cX9_above 1 = .ok (.iconst 3, 1) := by decide +kernel
theorem dX9_above_2 : decode cX9_above 2 = .ok (.if_icmp .ne 7, 3) := by decide +kernel
theorem dX9_above_5 : decode cX9_above 5 = .ok (.iconst 2, 1) := by decide +kernel
theorem dX9_above_6 : decode cX9_above 6 = .ok (.goto 32, 3) := by decide +kernel
theorem dX9_above_9 : decode cX9_above 9 = .ok (.iload_n 0, 1) := by decide +kernel
theorem dX9_above_10 : decode cX9_above 10 = .ok (.iconst 4, 1) := by decide +kernel
theorem dX9_above_11 : decode cX9_above 11 = .ok (.if_icmp .ne 7, 3) := by decide +kernel
theorem dX9_above_14 : decode cX9_above 14 = .ok (.iconst 1, 1) := by decide +kernel
theorem dX9_above_15 : decode cX9_above 15 = .ok (.goto 23, 3) := by decide +kernel
theorem dX9_above_18 : decode cX9_above 18 = .ok (.iload_n 0, 1) := by decide +kernel
theorem dX9_above_19 : decode cX9_above 19 = .ok (.iconst 5, 1) := by decide +kernel
theorem dX9_above_20 : decode cX9_above 20 = .ok (.if_icmp .ne 7, 3) := by decide +kernel
theorem dX9_above_23 : decode cX9_above 23 = .ok (.iconst 3, 1) := by decide +kernel
theorem dX9_above_24 : decode cX9_above 24 = .ok (.goto 14, 3) := by decide +kernel
theorem dX9_above_27 : decode cX9_above 27 = .ok (.iload_n 0, 1) := by decide +kernel
theorem dX9_above_28 : decode cX9_above 28 = .ok (.bipush 7, 2) := by decide +kernel
theorem dX9_above_30 : decode cX9_above 30 = .ok (.if_icmp .ne 7, 3) := by decide +kernel
theorem dX9_above_33 : decode cX9_above 33 = .ok (.iconst 4, 1) := by decide +kernel
theorem dX9_above_34 : decode cX9_above 34 = .ok (.goto 4, 3) := by decide +kernel
theorem dX9_above_37 : decode cX9_above 37 = .ok (.iconst 0, 1) := by decide +kernel
theorem dX9_above_38 : decode cX9_above 38 = .ok (.ireturn, 1) := by decide +kernel
theorem dX9_begins_0 : decode cX9_begins 0 = .ok (.aload_n 0, 1) := by decide +kernel
theorem dX9_begins_1 : decode cX9_begins 1 = .ok (.getfield 335, 3) := by decide +kernel
theorem dX9_begins_4 : decode cX9_begins 4 = .ok (.bipush 24, 2) := by decide +kernel
theorem dX9_begins_6 : decode cX9_begins 6 = .ok (.if_icmp .ge 13, 3) := by decide +kernel
theorem dX9_begins_9 : decode cX9_begins 9 = .ok (.aload_n 0, 1) := by decide +kernel
theorem dX9_begins_10 : decode cX9_begins 10 = .ok (.getfield 68, 3) := by decide +kernel
theorem dX9_begins_13 : decode cX9_begins 13 = .ok (.aload_n 0, 1) := by decide +kernel
theorem dX9_begins_14 : decode cX9_begins 14 = .ok (.getfield 335, 3) := by decide +kernel
theorem dX9_begins_17 : decode cX9_begins 17 = .ok (.iload_n 1, 1) := by decide +kernel
theorem dX9_begins_18 : decode cX9_begins 18 = .ok (.iastore, 1) := by decide +kernel
theorem dX9_begins_19 : decode cX9_begins 19 = .ok (.aload_n 0, 1) := by decide +kernel
theorem dX9_begins_20 : decode cX9_begins 20 = .ok (.dup, 1) := by decide +kernel
theorem dX9_begins_21 : decode cX9_begins 21 = .ok (.getfield 335, 3) := by decide +kernel
theorem dX9_begins_24 : decode cX9_begins 24 = .ok (.iconst 1, 1) := by decide +kernel
theorem dX9_begins_25 : decode cX9_begins 25 = .ok (.iadd, 1) := by decide +kernel
theorem dX9_begins_26 : decode cX9_begins 26 = .ok (.putfield 335, 3) := by decide +kernel
theorem dX9_begins_29 : decode cX9_begins 29 = .ok (.return_, 1) := by decide +kernel
theorem dX9_aimsAs_0 : decode cX9_aimsAs 0 = .ok (.iload_n 1, 1) := by decide +kernel
theorem dX9_aimsAs_1 : decode cX9_aimsAs 1 = .ok (.iconst 1, 1) := by decide +kernel
theorem dX9_aimsAs_2 : decode cX9_aimsAs 2 = .ok (.if_icmp .eq 14, 3) := by decide +kernel
theorem dX9_aimsAs_5 : decode cX9_aimsAs 5 = .ok (.iload_n 1, 1) := by decide +kernel
theorem dX9_aimsAs_6 : decode cX9_aimsAs 6 = .ok (.iconst 4, 1) := by decide +kernel
theorem dX9_aimsAs_7 : decode cX9_aimsAs 7 = .ok (.if_icmp .eq 9, 3) := by decide +kernel
theorem dX9_aimsAs_10 : decode cX9_aimsAs 10 = .ok (.iload_n 1, 1) := by decide +kernel
theorem dX9_aimsAs_11 : decode cX9_aimsAs 11 = .ok (.bipush 7, 2) := by decide +kernel
theorem dX9_aimsAs_13 : decode cX9_aimsAs 13 = .ok (.if_icmp .ne 18, 3) := by decide +kernel
theorem dX9_aimsAs_16 : decode cX9_aimsAs 16 = .ok (.aload_n 0, 1) := by decide +kernel
theorem dX9_aimsAs_17 : decode cX9_aimsAs 17 = .ok (.bipush 20, 2) := by decide +kernel
theorem dX9_aimsAs_19 : decode cX9_aimsAs 19 = .ok (.invokevirtual 338, 3) := by decide +kernel
theorem dX9_aimsAs_22 : decode cX9_aimsAs 22 = .ok (.aload_n 0, 1) := by decide +kernel
theorem dX9_aimsAs_23 : decode cX9_aimsAs 23 = .ok (.iconst 0, 1) := by decide +kernel
theorem dX9_aimsAs_24 : decode cX9_aimsAs 24 = .ok (.iload_n 2, 1) := by decide +kernel
theorem dX9_aimsAs_25 : decode cX9_aimsAs 25 = .ok (.invokevirtual 341, 3) := by decide +kernel
theorem dX9_aimsAs_28 : decode cX9_aimsAs 28 = .ok (.iconst 3, 1) := by decide +kernel
theorem dX9_aimsAs_29 : decode cX9_aimsAs 29 = .ok (.iadd, 1) := by decide +kernel
theorem dX9_aimsAs_30 : decode cX9_aimsAs 30 = .ok (.ireturn, 1) := by decide +kernel
theorem dX9_aimsAs_31 : decode cX9_aimsAs 31 = .ok (.iload_n 1, 1) := by decide +kernel
theorem dX9_aimsAs_32 : decode cX9_aimsAs 32 = .ok (.bipush 6, 2) := by decide +kernel
theorem dX9_aimsAs_34 : decode cX9_aimsAs 34 = .ok (.if_icmp .ne 18, 3) := by decide +kernel
theorem dX9_aimsAs_37 : decode cX9_aimsAs 37 = .ok (.aload_n 0, 1) := by decide +kernel
theorem dX9_aimsAs_38 : decode cX9_aimsAs 38 = .ok (.bipush 70, 2) := by decide +kernel
theorem dX9_aimsAs_40 : decode cX9_aimsAs 40 = .ok (.invokevirtual 338, 3) := by decide +kernel
theorem dX9_aimsAs_43 : decode cX9_aimsAs 43 = .ok (.aload_n 0, 1) := by decide +kernel
theorem dX9_aimsAs_44 : decode cX9_aimsAs 44 = .ok (.iconst 0, 1) := by decide +kernel
theorem dX9_aimsAs_45 : decode cX9_aimsAs 45 = .ok (.iload_n 2, 1) := by decide +kernel
theorem dX9_aimsAs_46 : decode cX9_aimsAs 46 = .ok (.invokevirtual 341, 3) := by decide +kernel
theorem dX9_aimsAs_49 : decode cX9_aimsAs 49 = .ok (.iconst 2, 1) := by decide +kernel
theorem dX9_aimsAs_50 : decode cX9_aimsAs 50 = .ok (.imul, 1) := by decide +kernel
theorem dX9_aimsAs_51 : decode cX9_aimsAs 51 = .ok (.ireturn, 1) := by decide +kernel
theorem dX9_aimsAs_52 : decode cX9_aimsAs 52 = .ok (.aload_n 0, 1) := by decide +kernel
theorem dX9_aimsAs_53 : decode cX9_aimsAs 53 = .ok (.iconst 1, 1) := by decide +kernel
theorem dX9_aimsAs_54 : decode cX9_aimsAs 54 = .ok (.invokevirtual 338, 3) := by decide +kernel
theorem dX9_aimsAs_57 : decode cX9_aimsAs 57 = .ok (.iload_n 2, 1) := by decide +kernel
theorem dX9_aimsAs_58 : decode cX9_aimsAs 58 = .ok (.aload_n 0, 1) := by decide +kernel
theorem dX9_aimsAs_59 : decode cX9_aimsAs 59 = .ok (.getfield 344, 3) := by decide +kernel
theorem dX9_aimsAs_62 : decode cX9_aimsAs 62 = .ok (.iadd, 1) := by decide +kernel
theorem dX9_aimsAs_63 : decode cX9_aimsAs 63 = .ok (.ireturn, 1) := by decide +kernel
theorem dX9_throwsAs_0 : decode cX9_throwsAs 0 = .ok (.iload_n 1, 1) := by decide +kernel
theorem dX9_throwsAs_1 : decode cX9_throwsAs 1 = .ok (.iconst 3, 1) := by decide +kernel
theorem dX9_throwsAs_2 : decode cX9_throwsAs 2 = .ok (.if_icmp .eq 8, 3) := by decide +kernel
theorem dX9_throwsAs_5 : decode cX9_throwsAs 5 = .ok (.iload_n 1, 1) := by decide +kernel
theorem dX9_throwsAs_6 : decode cX9_throwsAs 6 = .ok (.iconst 5, 1) := by decide +kernel
theorem dX9_throwsAs_7 : decode cX9_throwsAs 7 = .ok (.if_icmp .ne 18, 3) := by decide +kernel
theorem dX9_throwsAs_10 : decode cX9_throwsAs 10 = .ok (.aload_n 0, 1) := by decide +kernel
theorem dX9_throwsAs_11 : decode cX9_throwsAs 11 = .ok (.bipush 41, 2) := by decide +kernel
theorem dX9_throwsAs_13 : decode cX9_throwsAs 13 = .ok (.invokevirtual 338, 3) := by decide +kernel
theorem dX9_throwsAs_16 : decode cX9_throwsAs 16 = .ok (.aload_n 0, 1) := by decide +kernel
theorem dX9_throwsAs_17 : decode cX9_throwsAs 17 = .ok (.iconst 2, 1) := by decide +kernel
theorem dX9_throwsAs_18 : decode cX9_throwsAs 18 = .ok (.iload_n 2, 1) := by decide +kernel
theorem dX9_throwsAs_19 : decode cX9_throwsAs 19 = .ok (.iconst 1, 1) := by decide +kernel
theorem dX9_throwsAs_20 : decode cX9_throwsAs 20 = .ok (.iadd, 1) := by decide +kernel
theorem dX9_throwsAs_21 : decode cX9_throwsAs 21 = .ok (.invokevirtual 347, 3) := by decide +kernel
theorem dX9_throwsAs_24 : decode cX9_throwsAs 24 = .ok (.ireturn, 1) := by decide +kernel
theorem dX9_throwsAs_25 : decode cX9_throwsAs 25 = .ok (.iload_n 1, 1) := by decide +kernel
theorem dX9_throwsAs_26 : decode cX9_throwsAs 26 = .ok (.iconst 2, 1) := by decide +kernel
theorem dX9_throwsAs_27 : decode cX9_throwsAs 27 = .ok (.if_icmp .ne 17, 3) := by decide +kernel
theorem dX9_throwsAs_30 : decode cX9_throwsAs 30 = .ok (.aload_n 0, 1) := by decide +kernel
theorem dX9_throwsAs_31 : decode cX9_throwsAs 31 = .ok (.bipush 30, 2) := by decide +kernel
theorem dX9_throwsAs_33 : decode cX9_throwsAs 33 = .ok (.invokevirtual 338, 3) := by decide +kernel
theorem dX9_throwsAs_36 : decode cX9_throwsAs 36 = .ok (.aload_n 0, 1) := by decide +kernel
theorem dX9_throwsAs_37 : decode cX9_throwsAs 37 = .ok (.iconst 0, 1) := by decide +kernel
theorem dX9_throwsAs_38 : decode cX9_throwsAs 38 = .ok (.iload_n 2, 1) := by decide +kernel
theorem dX9_throwsAs_39 : decode cX9_throwsAs 39 = .ok (.invokevirtual 347, 3) := by decide +kernel
theorem dX9_throwsAs_42 : decode cX9_throwsAs 42 = .ok (.ineg, 1) := by decide +kernel
theorem dX9_throwsAs_43 : decode cX9_throwsAs 43 = .ok (.ireturn, 1) := by decide +kernel
theorem dX9_throwsAs_44 : decode cX9_throwsAs 44 = .ok (.iload_n 1, 1) := by decide +kernel
theorem dX9_throwsAs_45 : decode cX9_throwsAs 45 = .ok (.bipush 7, 2) := by decide +kernel
theorem dX9_throwsAs_47 : decode cX9_throwsAs 47 = .ok (.if_icmp .ne 28, 3) := by decide +kernel
theorem dX9_throwsAs_50 : decode cX9_throwsAs 50 = .ok (.aload_n 0, 1) := by decide +kernel
theorem dX9_throwsAs_51 : decode cX9_throwsAs 51 = .ok (.bipush 80, 2) := by decide +kernel
theorem dX9_throwsAs_53 : decode cX9_throwsAs 53 = .ok (.invokevirtual 338, 3) := by decide +kernel
theorem dX9_throwsAs_56 : decode cX9_throwsAs 56 = .ok (.aload_n 0, 1) := by decide +kernel
theorem dX9_throwsAs_57 : decode cX9_throwsAs 57 = .ok (.iconst 4, 1) := by decide +kernel
theorem dX9_throwsAs_58 : decode cX9_throwsAs 58 = .ok (.iload_n 2, 1) := by decide +kernel
theorem dX9_throwsAs_59 : decode cX9_throwsAs 59 = .ok (.invokevirtual 347, 3) := by decide +kernel
theorem dX9_throwsAs_62 : decode cX9_throwsAs 62 = .ok (.istore_n 3, 1) := by decide +kernel
theorem dX9_throwsAs_63 : decode cX9_throwsAs 63 = .ok (.iload_n 3, 1) := by decide +kernel
theorem dX9_throwsAs_64 : decode cX9_throwsAs 64 = .ok (.aload_n 0, 1) := by decide +kernel
theorem dX9_throwsAs_65 : decode cX9_throwsAs 65 = .ok (.aload_n 0, 1) := by decide +kernel
theorem dX9_throwsAs_66 : decode cX9_throwsAs 66 = .ok (.getfield 350, 3) := by decide +kernel
theorem dX9_throwsAs_69 : decode cX9_throwsAs 69 = .ok (.iconst 2, 1) := by decide +kernel
theorem dX9_throwsAs_70 : decode cX9_throwsAs 70 = .ok (.invokevirtual 353, 3) := by decide +kernel
theorem dX9_throwsAs_73 : decode cX9_throwsAs 73 = .ok (.iadd, 1) := by decide +kernel
theorem dX9_throwsAs_74 : decode cX9_throwsAs 74 = .ok (.ireturn, 1) := by decide +kernel
theorem dX9_throwsAs_75 : decode cX9_throwsAs 75 = .ok (.aload_n 0, 1) := by decide +kernel
theorem dX9_throwsAs_76 : decode cX9_throwsAs 76 = .ok (.bipush 10, 2) := by decide +kernel
theorem dX9_throwsAs_78 : decode cX9_throwsAs 78 = .ok (.invokevirtual 338, 3) := by decide +kernel
theorem dX9_throwsAs_81 : decode cX9_throwsAs 81 = .ok (.aload_n 0, 1) := by decide +kernel
theorem dX9_throwsAs_82 : decode cX9_throwsAs 82 = .ok (.aload_n 0, 1) := by decide +kernel
theorem dX9_throwsAs_83 : decode cX9_throwsAs 83 = .ok (.getfield 350, 3) := by decide +kernel
theorem dX9_throwsAs_86 : decode cX9_throwsAs 86 = .ok (.iload_n 2, 1) := by decide +kernel
theorem dX9_throwsAs_87 : decode cX9_throwsAs 87 = .ok (.invokevirtual 341, 3) := by decide +kernel
theorem dX9_throwsAs_90 : decode cX9_throwsAs 90 = .ok (.iconst 2, 1) := by decide +kernel
theorem dX9_throwsAs_91 : decode cX9_throwsAs 91 = .ok (.imul, 1) := by decide +kernel
theorem dX9_throwsAs_92 : decode cX9_throwsAs 92 = .ok (.ireturn, 1) := by decide +kernel
theorem dX9_hitsAs_0 : decode cX9_hitsAs 0 = .ok (.iload_n 1, 1) := by decide +kernel
theorem dX9_hitsAs_1 : decode cX9_hitsAs 1 = .ok (.iconst 3, 1) := by decide +kernel
theorem dX9_hitsAs_2 : decode cX9_hitsAs 2 = .ok (.if_icmp .eq 8, 3) := by decide +kernel
theorem dX9_hitsAs_5 : decode cX9_hitsAs 5 = .ok (.iload_n 1, 1) := by decide +kernel
theorem dX9_hitsAs_6 : decode cX9_hitsAs 6 = .ok (.iconst 5, 1) := by decide +kernel
theorem dX9_hitsAs_7 : decode cX9_hitsAs 7 = .ok (.if_icmp .ne 18, 3) := by decide +kernel
theorem dX9_hitsAs_10 : decode cX9_hitsAs 10 = .ok (.aload_n 0, 1) := by decide +kernel
theorem dX9_hitsAs_11 : decode cX9_hitsAs 11 = .ok (.bipush 40, 2) := by decide +kernel
theorem dX9_hitsAs_13 : decode cX9_hitsAs 13 = .ok (.invokevirtual 338, 3) := by decide +kernel
theorem dX9_hitsAs_16 : decode cX9_hitsAs 16 = .ok (.aload_n 0, 1) := by decide +kernel
theorem dX9_hitsAs_17 : decode cX9_hitsAs 17 = .ok (.iconst 2, 1) := by decide +kernel
theorem dX9_hitsAs_18 : decode cX9_hitsAs 18 = .ok (.iload_n 2, 1) := by decide +kernel
theorem dX9_hitsAs_19 : decode cX9_hitsAs 19 = .ok (.invokevirtual 353, 3) := by decide +kernel
theorem dX9_hitsAs_22 : decode cX9_hitsAs 22 = .ok (.iconst 3, 1) := by decide +kernel
theorem dX9_hitsAs_23 : decode cX9_hitsAs 23 = .ok (.imul, 1) := by decide +kernel
theorem dX9_hitsAs_24 : decode cX9_hitsAs 24 = .ok (.ireturn, 1) := by decide +kernel
theorem dX9_hitsAs_25 : decode cX9_hitsAs 25 = .ok (.iload_n 1, 1) := by decide +kernel
theorem dX9_hitsAs_26 : decode cX9_hitsAs 26 = .ok (.iconst 4, 1) := by decide +kernel
theorem dX9_hitsAs_27 : decode cX9_hitsAs 27 = .ok (.if_icmp .eq 9, 3) := by decide +kernel
theorem dX9_hitsAs_30 : decode cX9_hitsAs 30 = .ok (.iload_n 1, 1) := by decide +kernel
theorem dX9_hitsAs_31 : decode cX9_hitsAs 31 = .ok (.bipush 7, 2) := by decide +kernel
theorem dX9_hitsAs_33 : decode cX9_hitsAs 33 = .ok (.if_icmp .ne 28, 3) := by decide +kernel
theorem dX9_hitsAs_36 : decode cX9_hitsAs 36 = .ok (.aload_n 0, 1) := by decide +kernel
theorem dX9_hitsAs_37 : decode cX9_hitsAs 37 = .ok (.bipush 50, 2) := by decide +kernel
theorem dX9_hitsAs_39 : decode cX9_hitsAs 39 = .ok (.invokevirtual 338, 3) := by decide +kernel
theorem dX9_hitsAs_42 : decode cX9_hitsAs 42 = .ok (.aload_n 0, 1) := by decide +kernel
theorem dX9_hitsAs_43 : decode cX9_hitsAs 43 = .ok (.iconst 1, 1) := by decide +kernel
theorem dX9_hitsAs_44 : decode cX9_hitsAs 44 = .ok (.iload_n 2, 1) := by decide +kernel
theorem dX9_hitsAs_45 : decode cX9_hitsAs 45 = .ok (.invokevirtual 353, 3) := by decide +kernel
theorem dX9_hitsAs_48 : decode cX9_hitsAs 48 = .ok (.istore_n 3, 1) := by decide +kernel
theorem dX9_hitsAs_49 : decode cX9_hitsAs 49 = .ok (.iload_n 3, 1) := by decide +kernel
theorem dX9_hitsAs_50 : decode cX9_hitsAs 50 = .ok (.aload_n 0, 1) := by decide +kernel
theorem dX9_hitsAs_51 : decode cX9_hitsAs 51 = .ok (.aload_n 0, 1) := by decide +kernel
theorem dX9_hitsAs_52 : decode cX9_hitsAs 52 = .ok (.getfield 350, 3) := by decide +kernel
theorem dX9_hitsAs_55 : decode cX9_hitsAs 55 = .ok (.iconst 2, 1) := by decide +kernel
theorem dX9_hitsAs_56 : decode cX9_hitsAs 56 = .ok (.invokevirtual 341, 3) := by decide +kernel
theorem dX9_hitsAs_59 : decode cX9_hitsAs 59 = .ok (.isub, 1) := by decide +kernel
theorem dX9_hitsAs_60 : decode cX9_hitsAs 60 = .ok (.ireturn, 1) := by decide +kernel
theorem dX9_hitsAs_61 : decode cX9_hitsAs 61 = .ok (.aload_n 0, 1) := by decide +kernel
theorem dX9_hitsAs_62 : decode cX9_hitsAs 62 = .ok (.bipush 11, 2) := by decide +kernel
theorem dX9_hitsAs_64 : decode cX9_hitsAs 64 = .ok (.invokevirtual 338, 3) := by decide +kernel
theorem dX9_hitsAs_67 : decode cX9_hitsAs 67 = .ok (.iload_n 2, 1) := by decide +kernel
theorem dX9_hitsAs_68 : decode cX9_hitsAs 68 = .ok (.aload_n 0, 1) := by decide +kernel
theorem dX9_hitsAs_69 : decode cX9_hitsAs 69 = .ok (.getfield 344, 3) := by decide +kernel
theorem dX9_hitsAs_72 : decode cX9_hitsAs 72 = .ok (.ixor, 1) := by decide +kernel
theorem dX9_hitsAs_73 : decode cX9_hitsAs 73 = .ok (.ireturn, 1) := by decide +kernel
theorem dX9_tellsAs_0 : decode cX9_tellsAs 0 = .ok (.iload_n 1, 1) := by decide +kernel
theorem dX9_tellsAs_1 : decode cX9_tellsAs 1 = .ok (.iconst 5, 1) := by decide +kernel
theorem dX9_tellsAs_2 : decode cX9_tellsAs 2 = .ok (.if_icmp .ne 18, 3) := by decide +kernel
theorem dX9_tellsAs_5 : decode cX9_tellsAs 5 = .ok (.aload_n 0, 1) := by decide +kernel
theorem dX9_tellsAs_6 : decode cX9_tellsAs 6 = .ok (.bipush 60, 2) := by decide +kernel
theorem dX9_tellsAs_8 : decode cX9_tellsAs 8 = .ok (.invokevirtual 338, 3) := by decide +kernel
theorem dX9_tellsAs_11 : decode cX9_tellsAs 11 = .ok (.aload_n 0, 1) := by decide +kernel
theorem dX9_tellsAs_12 : decode cX9_tellsAs 12 = .ok (.iconst 3, 1) := by decide +kernel
theorem dX9_tellsAs_13 : decode cX9_tellsAs 13 = .ok (.iload_n 2, 1) := by decide +kernel
theorem dX9_tellsAs_14 : decode cX9_tellsAs 14 = .ok (.invokevirtual 356, 3) := by decide +kernel
theorem dX9_tellsAs_17 : decode cX9_tellsAs 17 = .ok (.iconst 5, 1) := by decide +kernel
theorem dX9_tellsAs_18 : decode cX9_tellsAs 18 = .ok (.ixor, 1) := by decide +kernel
theorem dX9_tellsAs_19 : decode cX9_tellsAs 19 = .ok (.ireturn, 1) := by decide +kernel
theorem dX9_tellsAs_20 : decode cX9_tellsAs 20 = .ok (.iload_n 1, 1) := by decide +kernel
theorem dX9_tellsAs_21 : decode cX9_tellsAs 21 = .ok (.bipush 7, 2) := by decide +kernel
theorem dX9_tellsAs_23 : decode cX9_tellsAs 23 = .ok (.if_icmp .ne 18, 3) := by decide +kernel
theorem dX9_tellsAs_26 : decode cX9_tellsAs 26 = .ok (.aload_n 0, 1) := by decide +kernel
theorem dX9_tellsAs_27 : decode cX9_tellsAs 27 = .ok (.bipush 81, 2) := by decide +kernel
theorem dX9_tellsAs_29 : decode cX9_tellsAs 29 = .ok (.invokevirtual 338, 3) := by decide +kernel
theorem dX9_tellsAs_32 : decode cX9_tellsAs 32 = .ok (.aload_n 0, 1) := by decide +kernel
theorem dX9_tellsAs_33 : decode cX9_tellsAs 33 = .ok (.iconst 4, 1) := by decide +kernel
theorem dX9_tellsAs_34 : decode cX9_tellsAs 34 = .ok (.iload_n 2, 1) := by decide +kernel
theorem dX9_tellsAs_35 : decode cX9_tellsAs 35 = .ok (.invokevirtual 356, 3) := by decide +kernel
theorem dX9_tellsAs_38 : decode cX9_tellsAs 38 = .ok (.iconst 1, 1) := by decide +kernel
theorem dX9_tellsAs_39 : decode cX9_tellsAs 39 = .ok (.isub, 1) := by decide +kernel
theorem dX9_tellsAs_40 : decode cX9_tellsAs 40 = .ok (.ireturn, 1) := by decide +kernel
theorem dX9_tellsAs_41 : decode cX9_tellsAs 41 = .ok (.aload_n 0, 1) := by decide +kernel
theorem dX9_tellsAs_42 : decode cX9_tellsAs 42 = .ok (.iconst 2, 1) := by decide +kernel
theorem dX9_tellsAs_43 : decode cX9_tellsAs 43 = .ok (.invokevirtual 338, 3) := by decide +kernel
theorem dX9_tellsAs_46 : decode cX9_tellsAs 46 = .ok (.aload_n 0, 1) := by decide +kernel
theorem dX9_tellsAs_47 : decode cX9_tellsAs 47 = .ok (.aload_n 0, 1) := by decide +kernel
theorem dX9_tellsAs_48 : decode cX9_tellsAs 48 = .ok (.getfield 350, 3) := by decide +kernel
theorem dX9_tellsAs_51 : decode cX9_tellsAs 51 = .ok (.iload_n 2, 1) := by decide +kernel
theorem dX9_tellsAs_52 : decode cX9_tellsAs 52 = .ok (.invokevirtual 347, 3) := by decide +kernel
theorem dX9_tellsAs_55 : decode cX9_tellsAs 55 = .ok (.istore_n 3, 1) := by decide +kernel
theorem dX9_tellsAs_56 : decode cX9_tellsAs 56 = .ok (.iload_n 3, 1) := by decide +kernel
theorem dX9_tellsAs_57 : decode cX9_tellsAs 57 = .ok (.aload_n 0, 1) := by decide +kernel
theorem dX9_tellsAs_58 : decode cX9_tellsAs 58 = .ok (.aload_n 0, 1) := by decide +kernel
theorem dX9_tellsAs_59 : decode cX9_tellsAs 59 = .ok (.getfield 350, 3) := by decide +kernel
theorem dX9_tellsAs_62 : decode cX9_tellsAs 62 = .ok (.iconst 1, 1) := by decide +kernel
theorem dX9_tellsAs_63 : decode cX9_tellsAs 63 = .ok (.invokevirtual 353, 3) := by decide +kernel
theorem dX9_tellsAs_66 : decode cX9_tellsAs 66 = .ok (.isub, 1) := by decide +kernel
theorem dX9_tellsAs_67 : decode cX9_tellsAs 67 = .ok (.ireturn, 1) := by decide +kernel
theorem dX9_act_0 : decode cX9_act 0 = .ok (.aload_n 0, 1) := by decide +kernel
theorem dX9_act_1 : decode cX9_act 1 = .ok (.iconst 0, 1) := by decide +kernel
theorem dX9_act_2 : decode cX9_act 2 = .ok (.putfield 335, 3) := by decide +kernel
theorem dX9_act_5 : decode cX9_act 5 = .ok (.aload_n 0, 1) := by decide +kernel
theorem dX9_act_6 : decode cX9_act 6 = .ok (.iload_n 1, 1) := by decide +kernel
theorem dX9_act_7 : decode cX9_act 7 = .ok (.invokevirtual 359, 3) := by decide +kernel
theorem dX9_act_10 : decode cX9_act 10 = .ok (.ifCond .ne 5, 3) := by decide +kernel
theorem dX9_act_13 : decode cX9_act 13 = .ok (.iconst 0, 1) := by decide +kernel
theorem dX9_act_14 : decode cX9_act 14 = .ok (.ireturn, 1) := by decide +kernel
theorem dX9_act_15 : decode cX9_act 15 = .ok (.aload_n 0, 1) := by decide +kernel
theorem dX9_act_16 : decode cX9_act 16 = .ok (.aload_n 0, 1) := by decide +kernel
theorem dX9_act_17 : decode cX9_act 17 = .ok (.getfield 65, 3) := by decide +kernel
theorem dX9_act_20 : decode cX9_act 20 = .ok (.iload_n 1, 1) := by decide +kernel
theorem dX9_act_21 : decode cX9_act 21 = .ok (.iaload, 1) := by decide +kernel
theorem dX9_act_22 : decode cX9_act 22 = .ok (.putfield 350, 3) := by decide +kernel
theorem dX9_act_25 : decode cX9_act 25 = .ok (.aload_n 0, 1) := by decide +kernel
theorem dX9_act_26 : decode cX9_act 26 = .ok (.iload_n 1, 1) := by decide +kernel
theorem dX9_act_27 : decode cX9_act 27 = .ok (.putfield 344, 3) := by decide +kernel
theorem dX9_act_30 : decode cX9_act 30 = .ok (.iload_n 2, 1) := by decide +kernel
theorem dX9_act_31 : decode cX9_act 31 = .ok (.tableswitch 69 0 3 #[29, 39, 49, 59], 29) := by decide +kernel
theorem dX9_act_60 : decode cX9_act 60 = .ok (.aload_n 0, 1) := by decide +kernel
theorem dX9_act_61 : decode cX9_act 61 = .ok (.aload_n 0, 1) := by decide +kernel
theorem dX9_act_62 : decode cX9_act 62 = .ok (.getfield 350, 3) := by decide +kernel
theorem dX9_act_65 : decode cX9_act 65 = .ok (.iload_n 3, 1) := by decide +kernel
theorem dX9_act_66 : decode cX9_act 66 = .ok (.invokevirtual 341, 3) := by decide +kernel
theorem dX9_act_69 : decode cX9_act 69 = .ok (.ireturn, 1) := by decide +kernel
theorem dX9_act_70 : decode cX9_act 70 = .ok (.aload_n 0, 1) := by decide +kernel
theorem dX9_act_71 : decode cX9_act 71 = .ok (.aload_n 0, 1) := by decide +kernel
theorem dX9_act_72 : decode cX9_act 72 = .ok (.getfield 350, 3) := by decide +kernel
theorem dX9_act_75 : decode cX9_act 75 = .ok (.iload_n 3, 1) := by decide +kernel
theorem dX9_act_76 : decode cX9_act 76 = .ok (.invokevirtual 347, 3) := by decide +kernel
theorem dX9_act_79 : decode cX9_act 79 = .ok (.ireturn, 1) := by decide +kernel
theorem dX9_act_80 : decode cX9_act 80 = .ok (.aload_n 0, 1) := by decide +kernel
theorem dX9_act_81 : decode cX9_act 81 = .ok (.aload_n 0, 1) := by decide +kernel
theorem dX9_act_82 : decode cX9_act 82 = .ok (.getfield 350, 3) := by decide +kernel
theorem dX9_act_85 : decode cX9_act 85 = .ok (.iload_n 3, 1) := by decide +kernel
theorem dX9_act_86 : decode cX9_act 86 = .ok (.invokevirtual 353, 3) := by decide +kernel
theorem dX9_act_89 : decode cX9_act 89 = .ok (.ireturn, 1) := by decide +kernel
theorem dX9_act_90 : decode cX9_act 90 = .ok (.aload_n 0, 1) := by decide +kernel
theorem dX9_act_91 : decode cX9_act 91 = .ok (.aload_n 0, 1) := by decide +kernel
theorem dX9_act_92 : decode cX9_act 92 = .ok (.getfield 350, 3) := by decide +kernel
theorem dX9_act_95 : decode cX9_act 95 = .ok (.iload_n 3, 1) := by decide +kernel
theorem dX9_act_96 : decode cX9_act 96 = .ok (.invokevirtual 356, 3) := by decide +kernel
theorem dX9_act_99 : decode cX9_act 99 = .ok (.ireturn, 1) := by decide +kernel
theorem dX9_act_100 : decode cX9_act 100 = .ok (.iconst 0, 1) := by decide +kernel
theorem dX9_act_101 : decode cX9_act 101 = .ok (.ireturn, 1) := by decide +kernel
theorem dX9_trace_0 : decode cX9_trace 0 = .ok (.iload_n 1, 1) := by decide +kernel
theorem dX9_trace_1 : decode cX9_trace 1 = .ok (.ifCond .lt 26, 3) := by decide +kernel
theorem dX9_trace_4 : decode cX9_trace 4 = .ok (.iload_n 1, 1) := by decide +kernel
theorem dX9_trace_5 : decode cX9_trace 5 = .ok (.aload_n 0, 1) := by decide +kernel
theorem dX9_trace_6 : decode cX9_trace 6 = .ok (.getfield 335, 3) := by decide +kernel
theorem dX9_trace_9 : decode cX9_trace 9 = .ok (.if_icmp .ge 18, 3) := by decide +kernel
theorem dX9_trace_12 : decode cX9_trace 12 = .ok (.iload_n 1, 1) := by decide +kernel
theorem dX9_trace_13 : decode cX9_trace 13 = .ok (.bipush 24, 2) := by decide +kernel
theorem dX9_trace_15 : decode cX9_trace 15 = .ok (.if_icmp .ge 12, 3) := by decide +kernel
theorem dX9_trace_18 : decode cX9_trace 18 = .ok (.aload_n 0, 1) := by decide +kernel
theorem dX9_trace_19 : decode cX9_trace 19 = .ok (.getfield 68, 3) := by decide +kernel
theorem dX9_trace_22 : decode cX9_trace 22 = .ok (.iload_n 1, 1) := by decide +kernel
theorem dX9_trace_23 : decode cX9_trace 23 = .ok (.iaload, 1) := by decide +kernel
theorem dX9_trace_24 : decode cX9_trace 24 = .ok (.goto 4, 3) := by decide +kernel
theorem dX9_trace_27 : decode cX9_trace 27 = .ok (.iconst (-1), 1) := by decide +kernel
theorem dX9_trace_28 : decode cX9_trace 28 = .ok (.ireturn, 1) := by decide +kernel
theorem dX9_isShelf_0 : decode cX9_isShelf 0 = .ok (.iload_n 0, 1) := by decide +kernel
theorem dX9_isShelf_1 : decode cX9_isShelf 1 = .ok (.i2l, 1) := by decide +kernel
theorem dX9_isShelf_2 : decode cX9_isShelf 2 = .ok (.lconst 0, 1) := by decide +kernel
theorem dX9_isShelf_3 : decode cX9_isShelf 3 = .ok (.ldc2_w 105, 3) := by decide +kernel
theorem dX9_isShelf_6 : decode cX9_isShelf 6 = .ok (.invokestatic 99, 3) := by decide +kernel
theorem dX9_isShelf_9 : decode cX9_isShelf 9 = .ok (.ireturn, 1) := by decide +kernel
theorem dX9_keep_0 : decode cX9_keep 0 = .ok (.iload_n 1, 1) := by decide +kernel
theorem dX9_keep_1 : decode cX9_keep 1 = .ok (.invokestatic 118, 3) := by decide +kernel
theorem dX9_keep_4 : decode cX9_keep 4 = .ok (.ifCond .eq 16, 3) := by decide +kernel
theorem dX9_keep_7 : decode cX9_keep 7 = .ok (.iload_n 2, 1) := by decide +kernel
theorem dX9_keep_8 : decode cX9_keep 8 = .ok (.iconst (-1), 1) := by decide +kernel
theorem dX9_keep_9 : decode cX9_keep 9 = .ok (.if_icmp .eq 13, 3) := by decide +kernel
theorem dX9_keep_12 : decode cX9_keep 12 = .ok (.aload_n 0, 1) := by decide +kernel
theorem dX9_keep_13 : decode cX9_keep 13 = .ok (.iload_n 2, 1) := by decide +kernel
theorem dX9_keep_14 : decode cX9_keep 14 = .ok (.invokevirtual 359, 3) := by decide +kernel
theorem dX9_keep_17 : decode cX9_keep 17 = .ok (.ifCond .ne 5, 3) := by decide +kernel
theorem dX9_keep_20 : decode cX9_keep 20 = .ok (.iconst (-1), 1) := by decide +kernel
theorem dX9_keep_21 : decode cX9_keep 21 = .ok (.ireturn, 1) := by decide +kernel
theorem dX9_keep_22 : decode cX9_keep 22 = .ok (.aload_n 0, 1) := by decide +kernel
theorem dX9_keep_23 : decode cX9_keep 23 = .ok (.getfield 71, 3) := by decide +kernel
theorem dX9_keep_26 : decode cX9_keep 26 = .ok (.iload_n 1, 1) := by decide +kernel
theorem dX9_keep_27 : decode cX9_keep 27 = .ok (.iload_n 2, 1) := by decide +kernel
theorem dX9_keep_28 : decode cX9_keep 28 = .ok (.iastore, 1) := by decide +kernel
theorem dX9_keep_29 : decode cX9_keep 29 = .ok (.aload_n 0, 1) := by decide +kernel
theorem dX9_keep_30 : decode cX9_keep 30 = .ok (.getfield 74, 3) := by decide +kernel
theorem dX9_keep_33 : decode cX9_keep 33 = .ok (.iload_n 1, 1) := by decide +kernel
theorem dX9_keep_34 : decode cX9_keep 34 = .ok (.iconst 0, 1) := by decide +kernel
theorem dX9_keep_35 : decode cX9_keep 35 = .ok (.iastore, 1) := by decide +kernel
theorem dX9_keep_36 : decode cX9_keep 36 = .ok (.iconst 1, 1) := by decide +kernel
theorem dX9_keep_37 : decode cX9_keep 37 = .ok (.ireturn, 1) := by decide +kernel
theorem dX9_row_0 : decode cX9_row 0 = .ok (.iload_n 1, 1) := by decide +kernel
theorem dX9_row_1 : decode cX9_row 1 = .ok (.invokestatic 118, 3) := by decide +kernel
theorem dX9_row_4 : decode cX9_row 4 = .ok (.ifCond .eq 21, 3) := by decide +kernel
theorem dX9_row_7 : decode cX9_row 7 = .ok (.iload_n 2, 1) := by decide +kernel
theorem dX9_row_8 : decode cX9_row 8 = .ok (.i2l, 1) := by decide +kernel
theorem dX9_row_9 : decode cX9_row 9 = .ok (.lconst 0, 1) := by decide +kernel
theorem dX9_row_10 : decode cX9_row 10 = .ok (.ldc2_w 122, 3) := by decide +kernel
theorem dX9_row_13 : decode cX9_row 13 = .ok (.invokestatic 99, 3) := by decide +kernel
theorem dX9_row_16 : decode cX9_row 16 = .ok (.ifCond .eq 9, 3) := by decide +kernel
theorem dX9_row_19 : decode cX9_row 19 = .ok (.iload_n 3, 1) := by decide +kernel
theorem dX9_row_20 : decode cX9_row 20 = .ok (.bipush 60, 2) := by decide +kernel
theorem dX9_row_22 : decode cX9_row 22 = .ok (.if_icmp .le 5, 3) := by decide +kernel
theorem dX9_row_25 : decode cX9_row 25 = .ok (.iconst (-1), 1) := by decide +kernel
theorem dX9_row_26 : decode cX9_row 26 = .ok (.ireturn, 1) := by decide +kernel
theorem dX9_row_27 : decode cX9_row 27 = .ok (.iload_n 3, 1) := by decide +kernel
theorem dX9_row_28 : decode cX9_row 28 = .ok (.ifCond .ge 6, 3) := by decide +kernel
theorem dX9_row_31 : decode cX9_row 31 = .ok (.bipush (-14), 2) := by decide +kernel
theorem dX9_row_33 : decode cX9_row 33 = .ok (.ireturn, 1) := by decide +kernel
theorem dX9_row_34 : decode cX9_row 34 = .ok (.aload_n 0, 1) := by decide +kernel
theorem dX9_row_35 : decode cX9_row 35 = .ok (.getfield 71, 3) := by decide +kernel
theorem dX9_row_38 : decode cX9_row 38 = .ok (.iload_n 1, 1) := by decide +kernel
theorem dX9_row_39 : decode cX9_row 39 = .ok (.bipush 50, 2) := by decide +kernel
theorem dX9_row_41 : decode cX9_row 41 = .ok (.iload_n 2, 1) := by decide +kernel
theorem dX9_row_42 : decode cX9_row 42 = .ok (.iadd, 1) := by decide +kernel
theorem dX9_row_43 : decode cX9_row 43 = .ok (.iastore, 1) := by decide +kernel
theorem dX9_row_44 : decode cX9_row 44 = .ok (.aload_n 0, 1) := by decide +kernel
theorem dX9_row_45 : decode cX9_row 45 = .ok (.getfield 74, 3) := by decide +kernel
theorem dX9_row_48 : decode cX9_row 48 = .ok (.iload_n 1, 1) := by decide +kernel
theorem dX9_row_49 : decode cX9_row 49 = .ok (.iload_n 3, 1) := by decide +kernel
theorem dX9_row_50 : decode cX9_row 50 = .ok (.iastore, 1) := by decide +kernel
theorem dX9_row_51 : decode cX9_row 51 = .ok (.bipush 60, 2) := by decide +kernel
theorem dX9_row_53 : decode cX9_row 53 = .ok (.iload_n 1, 1) := by decide +kernel
theorem dX9_row_54 : decode cX9_row 54 = .ok (.imul, 1) := by decide +kernel
theorem dX9_row_55 : decode cX9_row 55 = .ok (.istore 4, 2) := by decide +kernel
theorem dX9_row_57 : decode cX9_row 57 = .ok (.iload 4, 2) := by decide +kernel
theorem dX9_row_59 : decode cX9_row 59 = .ok (.bipush 60, 2) := by decide +kernel
theorem dX9_row_61 : decode cX9_row 61 = .ok (.iload_n 1, 1) := by decide +kernel
theorem dX9_row_62 : decode cX9_row 62 = .ok (.imul, 1) := by decide +kernel
theorem dX9_row_63 : decode cX9_row 63 = .ok (.bipush 60, 2) := by decide +kernel
theorem dX9_row_65 : decode cX9_row 65 = .ok (.iadd, 1) := by decide +kernel
theorem dX9_row_66 : decode cX9_row 66 = .ok (.if_icmp .ge 17, 3) := by decide +kernel
theorem dX9_row_69 : decode cX9_row 69 = .ok (.aload_n 0, 1) := by decide +kernel
theorem dX9_row_70 : decode cX9_row 70 = .ok (.getfield 77, 3) := by decide +kernel
theorem dX9_row_73 : decode cX9_row 73 = .ok (.iload 4, 2) := by decide +kernel
theorem dX9_row_75 : decode cX9_row 75 = .ok (.lconst 0, 1) := by decide +kernel
theorem dX9_row_76 : decode cX9_row 76 = .ok (.lastore, 1) := by decide +kernel
theorem dX9_row_77 : decode cX9_row 77 = .ok (.iinc 4 1, 3) := by decide +kernel
theorem dX9_row_80 : decode cX9_row 80 = .ok (.goto (-23), 3) := by decide +kernel
theorem dX9_row_83 : decode cX9_row 83 = .ok (.iconst 1, 1) := by decide +kernel
theorem dX9_row_84 : decode cX9_row 84 = .ok (.ireturn, 1) := by decide +kernel
theorem dX9_refusal_0 : decode cX9_refusal 0 = .ok (.iload_n 1, 1) := by decide +kernel
theorem dX9_refusal_1 : decode cX9_refusal 1 = .ok (.invokestatic 118, 3) := by decide +kernel
theorem dX9_refusal_4 : decode cX9_refusal 4 = .ok (.ifCond .ne 5, 3) := by decide +kernel
theorem dX9_refusal_7 : decode cX9_refusal 7 = .ok (.iconst (-1), 1) := by decide +kernel
theorem dX9_refusal_8 : decode cX9_refusal 8 = .ok (.ireturn, 1) := by decide +kernel
theorem dX9_refusal_9 : decode cX9_refusal 9 = .ok (.aload_n 0, 1) := by decide +kernel
theorem dX9_refusal_10 : decode cX9_refusal 10 = .ok (.getfield 71, 3) := by decide +kernel
theorem dX9_refusal_13 : decode cX9_refusal 13 = .ok (.iload_n 1, 1) := by decide +kernel
theorem dX9_refusal_14 : decode cX9_refusal 14 = .ok (.iaload, 1) := by decide +kernel
theorem dX9_refusal_15 : decode cX9_refusal 15 = .ok (.ifCond .ge 6, 3) := by decide +kernel
theorem dX9_refusal_18 : decode cX9_refusal 18 = .ok (.bipush (-11), 2) := by decide +kernel
theorem dX9_refusal_20 : decode cX9_refusal 20 = .ok (.ireturn, 1) := by decide +kernel
theorem dX9_refusal_21 : decode cX9_refusal 21 = .ok (.aload_n 0, 1) := by decide +kernel
theorem dX9_refusal_22 : decode cX9_refusal 22 = .ok (.getfield 71, 3) := by decide +kernel
theorem dX9_refusal_25 : decode cX9_refusal 25 = .ok (.iload_n 1, 1) := by decide +kernel
theorem dX9_refusal_26 : decode cX9_refusal 26 = .ok (.iaload, 1) := by decide +kernel
theorem dX9_refusal_27 : decode cX9_refusal 27 = .ok (.bipush 50, 2) := by decide +kernel
theorem dX9_refusal_29 : decode cX9_refusal 29 = .ok (.if_icmp .ge 6, 3) := by decide +kernel
theorem dX9_refusal_32 : decode cX9_refusal 32 = .ok (.bipush (-12), 2) := by decide +kernel
theorem dX9_refusal_34 : decode cX9_refusal 34 = .ok (.ireturn, 1) := by decide +kernel
theorem dX9_refusal_35 : decode cX9_refusal 35 = .ok (.iload_n 2, 1) := by decide +kernel
theorem dX9_refusal_36 : decode cX9_refusal 36 = .ok (.ifCond .lt 17, 3) := by decide +kernel
theorem dX9_refusal_39 : decode cX9_refusal 39 = .ok (.iload_n 2, 1) := by decide +kernel
theorem dX9_refusal_40 : decode cX9_refusal 40 = .ok (.aload_n 0, 1) := by decide +kernel
theorem dX9_refusal_41 : decode cX9_refusal 41 = .ok (.getfield 74, 3) := by decide +kernel
theorem dX9_refusal_44 : decode cX9_refusal 44 = .ok (.iload_n 1, 1) := by decide +kernel
theorem dX9_refusal_45 : decode cX9_refusal 45 = .ok (.iaload, 1) := by decide +kernel
theorem dX9_refusal_46 : decode cX9_refusal 46 = .ok (.if_icmp .ge 7, 3) := by decide +kernel
theorem dX9_refusal_49 : decode cX9_refusal 49 = .ok (.iconst 0, 1) := by decide +kernel
theorem dX9_refusal_50 : decode cX9_refusal 50 = .ok (.goto 5, 3) := by decide +kernel
theorem dX9_refusal_53 : decode cX9_refusal 53 = .ok (.bipush (-13), 2) := by decide +kernel
theorem dX9_refusal_55 : decode cX9_refusal 55 = .ok (.ireturn, 1) := by decide +kernel
theorem dX9_asSort_0 : decode cX9_asSort 0 = .ok (.iload_n 0, 1) := by decide +kernel
theorem dX9_asSort_1 : decode cX9_asSort 1 = .ok (.ifCond .ne 10, 3) := by decide +kernel
theorem dX9_asSort_4 : decode cX9_asSort 4 = .ok (.lload_n 1, 1) := by decide +kernel
theorem dX9_asSort_5 : decode cX9_asSort 5 = .ok (.l2i, 1) := by decide +kernel
theorem dX9_asSort_6 : decode cX9_asSort 6 = .ok (.i2b, 1) := by decide +kernel
theorem dX9_asSort_7 : decode cX9_asSort 7 = .ok (.i2l, 1) := by decide +kernel
theorem dX9_asSort_8 : decode cX9_asSort 8 = .ok (.goto 46, 3) := by decide +kernel
theorem dX9_asSort_11 : decode cX9_asSort 11 = .ok (.iload_n 0, 1) := by decide +kernel
theorem dX9_asSort_12 : decode cX9_asSort 12 = .ok (.iconst 1, 1) := by decide +kernel
theorem dX9_asSort_13 : decode cX9_asSort 13 = .ok (.if_icmp .ne 10, 3) := by decide +kernel
theorem dX9_asSort_16 : decode cX9_asSort 16 = .ok (.lload_n 1, 1) := by decide +kernel
theorem dX9_asSort_17 : decode cX9_asSort 17 = .ok (.l2i, 1) := by decide +kernel
theorem dX9_asSort_18 : decode cX9_asSort 18 = .ok (.i2s, 1) := by decide +kernel
theorem dX9_asSort_19 : decode cX9_asSort 19 = .ok (.i2l, 1) := by decide +kernel
theorem dX9_asSort_20 : decode cX9_asSort 20 = .ok (.goto 34, 3) := by decide +kernel
theorem dX9_asSort_23 : decode cX9_asSort 23 = .ok (.iload_n 0, 1) := by decide +kernel
theorem dX9_asSort_24 : decode cX9_asSort 24 = .ok (.iconst 2, 1) := by decide +kernel
theorem dX9_asSort_25 : decode cX9_asSort 25 = .ok (.if_icmp .ne 9, 3) := by decide +kernel
theorem dX9_asSort_28 : decode cX9_asSort 28 = .ok (.lload_n 1, 1) := by decide +kernel
theorem dX9_asSort_29 : decode cX9_asSort 29 = .ok (.l2i, 1) := by decide +kernel
theorem dX9_asSort_30 : decode cX9_asSort 30 = .ok (.i2l, 1) := by decide +kernel
theorem dX9_asSort_31 : decode cX9_asSort 31 = .ok (.goto 23, 3) := by decide +kernel
theorem dX9_asSort_34 : decode cX9_asSort 34 = .ok (.iload_n 0, 1) := by decide +kernel
theorem dX9_asSort_35 : decode cX9_asSort 35 = .ok (.iconst 4, 1) := by decide +kernel
theorem dX9_asSort_36 : decode cX9_asSort 36 = .ok (.if_icmp .ne 17, 3) := by decide +kernel
theorem dX9_asSort_39 : decode cX9_asSort 39 = .ok (.lload_n 1, 1) := by decide +kernel
theorem dX9_asSort_40 : decode cX9_asSort 40 = .ok (.lconst 0, 1) := by decide +kernel
theorem dX9_asSort_41 : decode cX9_asSort 41 = .ok (.lcmp, 1) := by decide +kernel
theorem dX9_asSort_42 : decode cX9_asSort 42 = .ok (.ifCond .eq 7, 3) := by decide +kernel
theorem dX9_asSort_45 : decode cX9_asSort 45 = .ok (.lconst 1, 1) := by decide +kernel
theorem dX9_asSort_46 : decode cX9_asSort 46 = .ok (.goto 8, 3) := by decide +kernel
theorem dX9_asSort_49 : decode cX9_asSort 49 = .ok (.lconst 0, 1) := by decide +kernel
theorem dX9_asSort_50 : decode cX9_asSort 50 = .ok (.goto 4, 3) := by decide +kernel
theorem dX9_asSort_53 : decode cX9_asSort 53 = .ok (.lload_n 1, 1) := by decide +kernel
theorem dX9_asSort_54 : decode cX9_asSort 54 = .ok (.lreturn, 1) := by decide +kernel
theorem dX9_put_0 : decode cX9_put 0 = .ok (.aload_n 0, 1) := by decide +kernel
theorem dX9_put_1 : decode cX9_put 1 = .ok (.iload_n 1, 1) := by decide +kernel
theorem dX9_put_2 : decode cX9_put 2 = .ok (.iload_n 2, 1) := by decide +kernel
theorem dX9_put_3 : decode cX9_put 3 = .ok (.invokevirtual 362, 3) := by decide +kernel
theorem dX9_put_6 : decode cX9_put 6 = .ok (.istore 5, 2) := by decide +kernel
theorem dX9_put_8 : decode cX9_put 8 = .ok (.iload 5, 2) := by decide +kernel
theorem dX9_put_10 : decode cX9_put 10 = .ok (.ifCond .ne 27, 3) := by decide +kernel
theorem dX9_put_13 : decode cX9_put 13 = .ok (.aload_n 0, 1) := by decide +kernel
theorem dX9_put_14 : decode cX9_put 14 = .ok (.getfield 77, 3) := by decide +kernel
theorem dX9_put_17 : decode cX9_put 17 = .ok (.bipush 60, 2) := by decide +kernel
theorem dX9_put_19 : decode cX9_put 19 = .ok (.iload_n 1, 1) := by decide +kernel
theorem dX9_put_20 : decode cX9_put 20 = .ok (.imul, 1) := by decide +kernel
theorem dX9_put_21 : decode cX9_put 21 = .ok (.iload_n 2, 1) := by decide +kernel
theorem dX9_put_22 : decode cX9_put 22 = .ok (.iadd, 1) := by decide +kernel
theorem dX9_put_23 : decode cX9_put 23 = .ok (.aload_n 0, 1) := by decide +kernel
theorem dX9_put_24 : decode cX9_put 24 = .ok (.getfield 71, 3) := by decide +kernel
theorem dX9_put_27 : decode cX9_put 27 = .ok (.iload_n 1, 1) := by decide +kernel
theorem dX9_put_28 : decode cX9_put 28 = .ok (.iaload, 1) := by decide +kernel
theorem dX9_put_29 : decode cX9_put 29 = .ok (.bipush 50, 2) := by decide +kernel
theorem dX9_put_31 : decode cX9_put 31 = .ok (.isub, 1) := by decide +kernel
theorem dX9_put_32 : decode cX9_put 32 = .ok (.lload_n 3, 1) := by decide +kernel
theorem dX9_put_33 : decode cX9_put 33 = .ok (.invokestatic 365, 3) := by decide +kernel
theorem dX9_put_36 : decode cX9_put 36 = .ok (.lastore, 1) := by decide +kernel
theorem dX9_put_37 : decode cX9_put 37 = .ok (.iload 5, 2) := by decide +kernel
theorem dX9_put_39 : decode cX9_put 39 = .ok (.ifCond .ne 7, 3) := by decide +kernel
theorem dX9_put_42 : decode cX9_put 42 = .ok (.iconst 1, 1) := by decide +kernel
theorem dX9_put_43 : decode cX9_put 43 = .ok (.goto 5, 3) := by decide +kernel
theorem dX9_put_46 : decode cX9_put 46 = .ok (.iload 5, 2) := by decide +kernel
theorem dX9_put_48 : decode cX9_put 48 = .ok (.ireturn, 1) := by decide +kernel
theorem dX9_element_0 : decode cX9_element 0 = .ok (.aload_n 0, 1) := by decide +kernel
theorem dX9_element_1 : decode cX9_element 1 = .ok (.iload_n 1, 1) := by decide +kernel
theorem dX9_element_2 : decode cX9_element 2 = .ok (.iload_n 2, 1) := by decide +kernel
theorem dX9_element_3 : decode cX9_element 3 = .ok (.invokevirtual 362, 3) := by decide +kernel
theorem dX9_element_6 : decode cX9_element 6 = .ok (.ifCond .eq 9, 3) := by decide +kernel
theorem dX9_element_9 : decode cX9_element 9 = .ok (.ldc2_w 260, 3) := by decide +kernel
theorem dX9_element_12 : decode cX9_element 12 = .ok (.goto 14, 3) := by decide +kernel
theorem dX9_element_15 : decode cX9_element 15 = .ok (.aload_n 0, 1) := by decide +kernel
theorem dX9_element_16 : decode cX9_element 16 = .ok (.getfield 77, 3) := by decide +kernel
theorem dX9_element_19 : decode cX9_element 19 = .ok (.bipush 60, 2) := by decide +kernel
theorem dX9_element_21 : decode cX9_element 21 = .ok (.iload_n 1, 1) := by decide +kernel
theorem dX9_element_22 : decode cX9_element 22 = .ok (.imul, 1) := by decide +kernel
theorem dX9_element_23 : decode cX9_element 23 = .ok (.iload_n 2, 1) := by decide +kernel
theorem dX9_element_24 : decode cX9_element 24 = .ok (.iadd, 1) := by decide +kernel
theorem dX9_element_25 : decode cX9_element 25 = .ok (.laload, 1) := by decide +kernel
theorem dX9_element_26 : decode cX9_element 26 = .ok (.lreturn, 1) := by decide +kernel
theorem dX9_shift_0 : decode cX9_shift 0 = .ok (.iload_n 1, 1) := by decide +kernel
theorem dX9_shift_1 : decode cX9_shift 1 = .ok (.invokestatic 118, 3) := by decide +kernel
theorem dX9_shift_4 : decode cX9_shift 4 = .ok (.ifCond .eq 10, 3) := by decide +kernel
theorem dX9_shift_7 : decode cX9_shift 7 = .ok (.iload_n 3, 1) := by decide +kernel
theorem dX9_shift_8 : decode cX9_shift 8 = .ok (.invokestatic 118, 3) := by decide +kernel
theorem dX9_shift_11 : decode cX9_shift 11 = .ok (.ifCond .ne 5, 3) := by decide +kernel
theorem dX9_shift_14 : decode cX9_shift 14 = .ok (.iconst (-1), 1) := by decide +kernel
theorem dX9_shift_15 : decode cX9_shift 15 = .ok (.ireturn, 1) := by decide +kernel
theorem dX9_shift_16 : decode cX9_shift 16 = .ok (.aload_n 0, 1) := by decide +kernel
theorem dX9_shift_17 : decode cX9_shift 17 = .ok (.getfield 71, 3) := by decide +kernel
theorem dX9_shift_20 : decode cX9_shift 20 = .ok (.iload_n 1, 1) := by decide +kernel
theorem dX9_shift_21 : decode cX9_shift 21 = .ok (.iaload, 1) := by decide +kernel
theorem dX9_shift_22 : decode cX9_shift 22 = .ok (.ifCond .lt 12, 3) := by decide +kernel
theorem dX9_shift_25 : decode cX9_shift 25 = .ok (.aload_n 0, 1) := by decide +kernel
theorem dX9_shift_26 : decode cX9_shift 26 = .ok (.getfield 71, 3) := by decide +kernel
theorem dX9_shift_29 : decode cX9_shift 29 = .ok (.iload_n 3, 1) := by decide +kernel
theorem dX9_shift_30 : decode cX9_shift 30 = .ok (.iaload, 1) := by decide +kernel
theorem dX9_shift_31 : decode cX9_shift 31 = .ok (.ifCond .ge 6, 3) := by decide +kernel
theorem dX9_shift_34 : decode cX9_shift 34 = .ok (.bipush (-11), 2) := by decide +kernel
theorem dX9_shift_36 : decode cX9_shift 36 = .ok (.ireturn, 1) := by decide +kernel
theorem dX9_shift_37 : decode cX9_shift 37 = .ok (.aload_n 0, 1) := by decide +kernel
theorem dX9_shift_38 : decode cX9_shift 38 = .ok (.getfield 71, 3) := by decide +kernel
theorem dX9_shift_41 : decode cX9_shift 41 = .ok (.iload_n 1, 1) := by decide +kernel
theorem dX9_shift_42 : decode cX9_shift 42 = .ok (.iaload, 1) := by decide +kernel
theorem dX9_shift_43 : decode cX9_shift 43 = .ok (.bipush 50, 2) := by decide +kernel
theorem dX9_shift_45 : decode cX9_shift 45 = .ok (.if_icmp .lt 18, 3) := by decide +kernel
theorem dX9_shift_48 : decode cX9_shift 48 = .ok (.aload_n 0, 1) := by decide +kernel
theorem dX9_shift_49 : decode cX9_shift 49 = .ok (.getfield 71, 3) := by decide +kernel
theorem dX9_shift_52 : decode cX9_shift 52 = .ok (.iload_n 1, 1) := by decide +kernel
theorem dX9_shift_53 : decode cX9_shift 53 = .ok (.iaload, 1) := by decide +kernel
theorem dX9_shift_54 : decode cX9_shift 54 = .ok (.aload_n 0, 1) := by decide +kernel
theorem dX9_shift_55 : decode cX9_shift 55 = .ok (.getfield 71, 3) := by decide +kernel
theorem dX9_shift_58 : decode cX9_shift 58 = .ok (.iload_n 3, 1) := by decide +kernel
theorem dX9_shift_59 : decode cX9_shift 59 = .ok (.iaload, 1) := by decide +kernel
theorem dX9_shift_60 : decode cX9_shift 60 = .ok (.if_icmp .eq 6, 3) := by decide +kernel
theorem dX9_shift_63 : decode cX9_shift 63 = .ok (.bipush (-12), 2) := by decide +kernel
theorem dX9_shift_65 : decode cX9_shift 65 = .ok (.ireturn, 1) := by decide +kernel
theorem dX9_shift_66 : decode cX9_shift 66 = .ok (.iload 5, 2) := by decide +kernel
theorem dX9_shift_68 : decode cX9_shift 68 = .ok (.ifCond .lt 39, 3) := by decide +kernel
theorem dX9_shift_71 : decode cX9_shift 71 = .ok (.iload_n 2, 1) := by decide +kernel
theorem dX9_shift_72 : decode cX9_shift 72 = .ok (.ifCond .lt 35, 3) := by decide +kernel
theorem dX9_shift_75 : decode cX9_shift 75 = .ok (.iload 4, 2) := by decide +kernel
theorem dX9_shift_77 : decode cX9_shift 77 = .ok (.ifCond .lt 30, 3) := by decide +kernel
theorem dX9_shift_80 : decode cX9_shift 80 = .ok (.iload_n 2, 1) := by decide +kernel
theorem dX9_shift_81 : decode cX9_shift 81 = .ok (.aload_n 0, 1) := by decide +kernel
theorem dX9_shift_82 : decode cX9_shift 82 = .ok (.getfield 74, 3) := by decide +kernel
theorem dX9_shift_85 : decode cX9_shift 85 = .ok (.iload_n 1, 1) := by decide +kernel
theorem dX9_shift_86 : decode cX9_shift 86 = .ok (.iaload, 1) := by decide +kernel
theorem dX9_shift_87 : decode cX9_shift 87 = .ok (.iload 5, 2) := by decide +kernel
theorem dX9_shift_89 : decode cX9_shift 89 = .ok (.isub, 1) := by decide +kernel
theorem dX9_shift_90 : decode cX9_shift 90 = .ok (.if_icmp .gt 17, 3) := by decide +kernel
theorem dX9_shift_93 : decode cX9_shift 93 = .ok (.iload 4, 2) := by decide +kernel
theorem dX9_shift_95 : decode cX9_shift 95 = .ok (.aload_n 0, 1) := by decide +kernel
theorem dX9_shift_96 : decode cX9_shift 96 = .ok (.getfield 74, 3) := by decide +kernel
theorem dX9_shift_99 : decode cX9_shift 99 = .ok (.iload_n 3, 1) := by decide +kernel
theorem dX9_shift_100 : decode cX9_shift 100 = .ok (.iaload, 1) := by decide +kernel
theorem dX9_shift_101 : decode cX9_shift 101 = .ok (.iload 5, 2) := by decide +kernel
theorem dX9_shift_103 : decode cX9_shift 103 = .ok (.isub, 1) := by decide +kernel
theorem dX9_shift_104 : decode cX9_shift 104 = .ok (.if_icmp .le 6, 3) := by decide +kernel
theorem dX9_shift_107 : decode cX9_shift 107 = .ok (.bipush (-13), 2) := by decide +kernel
theorem dX9_shift_109 : decode cX9_shift 109 = .ok (.ireturn, 1) := by decide +kernel
theorem dX9_shift_110 : decode cX9_shift 110 = .ok (.iconst 0, 1) := by decide +kernel
theorem dX9_shift_111 : decode cX9_shift 111 = .ok (.istore 6, 2) := by decide +kernel
theorem dX9_shift_113 : decode cX9_shift 113 = .ok (.iload 6, 2) := by decide +kernel
theorem dX9_shift_115 : decode cX9_shift 115 = .ok (.iload 5, 2) := by decide +kernel
theorem dX9_shift_117 : decode cX9_shift 117 = .ok (.if_icmp .ge 30, 3) := by decide +kernel
theorem dX9_shift_120 : decode cX9_shift 120 = .ok (.aload_n 0, 1) := by decide +kernel
theorem dX9_shift_121 : decode cX9_shift 121 = .ok (.getfield 80, 3) := by decide +kernel
theorem dX9_shift_124 : decode cX9_shift 124 = .ok (.iload 6, 2) := by decide +kernel
theorem dX9_shift_126 : decode cX9_shift 126 = .ok (.aload_n 0, 1) := by decide +kernel
theorem dX9_shift_127 : decode cX9_shift 127 = .ok (.getfield 77, 3) := by decide +kernel
theorem dX9_shift_130 : decode cX9_shift 130 = .ok (.bipush 60, 2) := by decide +kernel
theorem dX9_shift_132 : decode cX9_shift 132 = .ok (.iload_n 1, 1) := by decide +kernel
theorem dX9_shift_133 : decode cX9_shift 133 = .ok (.imul, 1) := by decide +kernel
theorem dX9_shift_134 : decode cX9_shift 134 = .ok (.iload_n 2, 1) := by decide +kernel
theorem dX9_shift_135 : decode cX9_shift 135 = .ok (.iadd, 1) := by decide +kernel
theorem dX9_shift_136 : decode cX9_shift 136 = .ok (.iload 6, 2) := by decide +kernel
theorem dX9_shift_138 : decode cX9_shift 138 = .ok (.iadd, 1) := by decide +kernel
theorem dX9_shift_139 : decode cX9_shift 139 = .ok (.laload, 1) := by decide +kernel
theorem dX9_shift_140 : decode cX9_shift 140 = .ok (.lastore, 1) := by decide +kernel
theorem dX9_shift_141 : decode cX9_shift 141 = .ok (.iinc 6 1, 3) := by decide +kernel
theorem dX9_shift_144 : decode cX9_shift 144 = .ok (.goto (-31), 3) := by decide +kernel
theorem dX9_shift_147 : decode cX9_shift 147 = .ok (.iconst 0, 1) := by decide +kernel
theorem dX9_shift_148 : decode cX9_shift 148 = .ok (.istore 6, 2) := by decide +kernel
theorem dX9_shift_150 : decode cX9_shift 150 = .ok (.iload 6, 2) := by decide +kernel
theorem dX9_shift_152 : decode cX9_shift 152 = .ok (.iload 5, 2) := by decide +kernel
theorem dX9_shift_154 : decode cX9_shift 154 = .ok (.if_icmp .ge 31, 3) := by decide +kernel
theorem dX9_shift_157 : decode cX9_shift 157 = .ok (.aload_n 0, 1) := by decide +kernel
theorem dX9_shift_158 : decode cX9_shift 158 = .ok (.getfield 77, 3) := by decide +kernel
theorem dX9_shift_161 : decode cX9_shift 161 = .ok (.bipush 60, 2) := by decide +kernel
theorem dX9_shift_163 : decode cX9_shift 163 = .ok (.iload_n 3, 1) := by decide +kernel
theorem dX9_shift_164 : decode cX9_shift 164 = .ok (.imul, 1) := by decide +kernel
theorem dX9_shift_165 : decode cX9_shift 165 = .ok (.iload 4, 2) := by decide +kernel
theorem dX9_shift_167 : decode cX9_shift 167 = .ok (.iadd, 1) := by decide +kernel
theorem dX9_shift_168 : decode cX9_shift 168 = .ok (.iload 6, 2) := by decide +kernel
theorem dX9_shift_170 : decode cX9_shift 170 = .ok (.iadd, 1) := by decide +kernel
theorem dX9_shift_171 : decode cX9_shift 171 = .ok (.aload_n 0, 1) := by decide +kernel
theorem dX9_shift_172 : decode cX9_shift 172 = .ok (.getfield 80, 3) := by decide +kernel
theorem dX9_shift_175 : decode cX9_shift 175 = .ok (.iload 6, 2) := by decide +kernel
theorem dX9_shift_177 : decode cX9_shift 177 = .ok (.laload, 1) := by decide +kernel
theorem dX9_shift_178 : decode cX9_shift 178 = .ok (.lastore, 1) := by decide +kernel
theorem dX9_shift_179 : decode cX9_shift 179 = .ok (.iinc 6 1, 3) := by decide +kernel
theorem dX9_shift_182 : decode cX9_shift 182 = .ok (.goto (-32), 3) := by decide +kernel
theorem dX9_shift_185 : decode cX9_shift 185 = .ok (.iload 5, 2) := by decide +kernel
theorem dX9_shift_187 : decode cX9_shift 187 = .ok (.ireturn, 1) := by decide +kernel
theorem dX9_taken_0 : decode cX9_taken 0 = .ok (.iload_n 1, 1) := by decide +kernel
theorem dX9_taken_1 : decode cX9_taken 1 = .ok (.invokestatic 118, 3) := by decide +kernel
theorem dX9_taken_4 : decode cX9_taken 4 = .ok (.ifCond .eq 15, 3) := by decide +kernel
theorem dX9_taken_7 : decode cX9_taken 7 = .ok (.iload_n 2, 1) := by decide +kernel
theorem dX9_taken_8 : decode cX9_taken 8 = .ok (.i2l, 1) := by decide +kernel
theorem dX9_taken_9 : decode cX9_taken 9 = .ok (.lconst 0, 1) := by decide +kernel
theorem dX9_taken_10 : decode cX9_taken 10 = .ok (.ldc2_w 333, 3) := by decide +kernel
theorem dX9_taken_13 : decode cX9_taken 13 = .ok (.invokestatic 99, 3) := by decide +kernel
theorem dX9_taken_16 : decode cX9_taken 16 = .ok (.ifCond .ne 5, 3) := by decide +kernel
theorem dX9_taken_19 : decode cX9_taken 19 = .ok (.iconst (-1), 1) := by decide +kernel
theorem dX9_taken_20 : decode cX9_taken 20 = .ok (.ireturn, 1) := by decide +kernel
theorem dX9_taken_21 : decode cX9_taken 21 = .ok (.aload_n 0, 1) := by decide +kernel
theorem dX9_taken_22 : decode cX9_taken 22 = .ok (.getfield 71, 3) := by decide +kernel
theorem dX9_taken_25 : decode cX9_taken 25 = .ok (.iload_n 1, 1) := by decide +kernel
theorem dX9_taken_26 : decode cX9_taken 26 = .ok (.iaload, 1) := by decide +kernel
theorem dX9_taken_27 : decode cX9_taken 27 = .ok (.ifCond .ge 6, 3) := by decide +kernel
theorem dX9_taken_30 : decode cX9_taken 30 = .ok (.bipush (-11), 2) := by decide +kernel
theorem dX9_taken_32 : decode cX9_taken 32 = .ok (.ireturn, 1) := by decide +kernel
theorem dX9_taken_33 : decode cX9_taken 33 = .ok (.aload_n 0, 1) := by decide +kernel
theorem dX9_taken_34 : decode cX9_taken 34 = .ok (.getfield 71, 3) := by decide +kernel
theorem dX9_taken_37 : decode cX9_taken 37 = .ok (.iload_n 1, 1) := by decide +kernel
theorem dX9_taken_38 : decode cX9_taken 38 = .ok (.iaload, 1) := by decide +kernel
theorem dX9_taken_39 : decode cX9_taken 39 = .ok (.bipush 50, 2) := by decide +kernel
theorem dX9_taken_41 : decode cX9_taken 41 = .ok (.if_icmp .lt 6, 3) := by decide +kernel
theorem dX9_taken_44 : decode cX9_taken 44 = .ok (.bipush (-12), 2) := by decide +kernel
theorem dX9_taken_46 : decode cX9_taken 46 = .ok (.ireturn, 1) := by decide +kernel
theorem dX9_taken_47 : decode cX9_taken 47 = .ok (.aload_n 0, 1) := by decide +kernel
theorem dX9_taken_48 : decode cX9_taken 48 = .ok (.aload_n 0, 1) := by decide +kernel
theorem dX9_taken_49 : decode cX9_taken 49 = .ok (.getfield 71, 3) := by decide +kernel
theorem dX9_taken_52 : decode cX9_taken 52 = .ok (.iload_n 1, 1) := by decide +kernel
theorem dX9_taken_53 : decode cX9_taken 53 = .ok (.iaload, 1) := by decide +kernel
theorem dX9_taken_54 : decode cX9_taken 54 = .ok (.invokevirtual 369, 3) := by decide +kernel
theorem dX9_taken_57 : decode cX9_taken 57 = .ok (.istore_n 3, 1) := by decide +kernel
theorem dX9_taken_58 : decode cX9_taken 58 = .ok (.iload_n 3, 1) := by decide +kernel
theorem dX9_taken_59 : decode cX9_taken 59 = .ok (.iload_n 2, 1) := by decide +kernel
theorem dX9_taken_60 : decode cX9_taken 60 = .ok (.if_icmp .eq 15, 3) := by decide +kernel
theorem dX9_taken_63 : decode cX9_taken 63 = .ok (.iload_n 3, 1) := by decide +kernel
theorem dX9_taken_64 : decode cX9_taken 64 = .ok (.ifCond .le 11, 3) := by decide +kernel
theorem dX9_taken_67 : decode cX9_taken 67 = .ok (.iload_n 3, 1) := by decide +kernel
theorem dX9_taken_68 : decode cX9_taken 68 = .ok (.invokestatic 372, 3) := by decide +kernel
theorem dX9_taken_71 : decode cX9_taken 71 = .ok (.istore_n 3, 1) := by decide +kernel
theorem dX9_taken_72 : decode cX9_taken 72 = .ok (.goto (-14), 3) := by decide +kernel
theorem dX9_taken_75 : decode cX9_taken 75 = .ok (.iload_n 3, 1) := by decide +kernel
theorem dX9_taken_76 : decode cX9_taken 76 = .ok (.iload_n 2, 1) := by decide +kernel
theorem dX9_taken_77 : decode cX9_taken 77 = .ok (.if_icmp .ne 16, 3) := by decide +kernel
theorem dX9_taken_80 : decode cX9_taken 80 = .ok (.aload_n 0, 1) := by decide +kernel
theorem dX9_taken_81 : decode cX9_taken 81 = .ok (.aload_n 0, 1) := by decide +kernel
theorem dX9_taken_82 : decode cX9_taken 82 = .ok (.getfield 71, 3) := by decide +kernel
theorem dX9_taken_85 : decode cX9_taken 85 = .ok (.iload_n 1, 1) := by decide +kernel
theorem dX9_taken_86 : decode cX9_taken 86 = .ok (.iaload, 1) := by decide +kernel
theorem dX9_taken_87 : decode cX9_taken 87 = .ok (.invokevirtual 369, 3) := by decide +kernel
theorem dX9_taken_90 : decode cX9_taken 90 = .ok (.goto 5, 3) := by decide +kernel
theorem dX9_taken_93 : decode cX9_taken 93 = .ok (.bipush (-12), 2) := by decide +kernel
theorem dX9_taken_95 : decode cX9_taken 95 = .ok (.ireturn, 1) := by decide +kernel
theorem dX9_count_0 : decode cX9_count 0 = .ok (.iload_n 1, 1) := by decide +kernel
theorem dX9_count_1 : decode cX9_count 1 = .ok (.tableswitch 78 0 6 #[43, 48, 53, 58, 63, 68, 73], 43) := by decide +kernel
theorem dX9_count_44 : decode cX9_count 44 = .ok (.aload_n 0, 1) := by decide +kernel
theorem dX9_count_45 : decode cX9_count 45 = .ok (.getfield 96, 3) := by decide +kernel
theorem dX9_count_48 : decode cX9_count 48 = .ok (.ireturn, 1) := by decide +kernel
theorem dX9_count_49 : decode cX9_count 49 = .ok (.aload_n 0, 1) := by decide +kernel
theorem dX9_count_50 : decode cX9_count 50 = .ok (.getfield 139, 3) := by decide +kernel
theorem dX9_count_53 : decode cX9_count 53 = .ok (.ireturn, 1) := by decide +kernel
theorem dX9_count_54 : decode cX9_count 54 = .ok (.aload_n 0, 1) := by decide +kernel
theorem dX9_count_55 : decode cX9_count 55 = .ok (.getfield 316, 3) := by decide +kernel
theorem dX9_count_58 : decode cX9_count 58 = .ok (.ireturn, 1) := by decide +kernel
theorem dX9_count_59 : decode cX9_count 59 = .ok (.aload_n 0, 1) := by decide +kernel
theorem dX9_count_60 : decode cX9_count 60 = .ok (.getfield 144, 3) := by decide +kernel
theorem dX9_count_63 : decode cX9_count 63 = .ok (.ireturn, 1) := by decide +kernel
theorem dX9_count_64 : decode cX9_count 64 = .ok (.aload_n 0, 1) := by decide +kernel
theorem dX9_count_65 : decode cX9_count 65 = .ok (.getfield 90, 3) := by decide +kernel
theorem dX9_count_68 : decode cX9_count 68 = .ok (.ireturn, 1) := by decide +kernel
theorem dX9_count_69 : decode cX9_count 69 = .ok (.aload_n 0, 1) := by decide +kernel
theorem dX9_count_70 : decode cX9_count 70 = .ok (.getfield 330, 3) := by decide +kernel
theorem dX9_count_73 : decode cX9_count 73 = .ok (.ireturn, 1) := by decide +kernel
theorem dX9_count_74 : decode cX9_count 74 = .ok (.aload_n 0, 1) := by decide +kernel
theorem dX9_count_75 : decode cX9_count 75 = .ok (.getfield 335, 3) := by decide +kernel
theorem dX9_count_78 : decode cX9_count 78 = .ok (.ireturn, 1) := by decide +kernel
theorem dX9_count_79 : decode cX9_count 79 = .ok (.iconst (-1), 1) := by decide +kernel
theorem dX9_count_80 : decode cX9_count 80 = .ok (.ireturn, 1) := by decide +kernel
