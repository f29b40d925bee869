theorem dX11_init_0 : decode cX11_init 0 = .ok (.aload_n 0, 1) := by decide +kernel
theorem dX11_init_1 : decode cX11_init 1 = .ok (.invokespecial 1, 3) := by decide +kernel
theorem dX11_init_4 : decode cX11_init 4 = .ok (.aload_n 0, 1) := by decide +kernel
theorem dX11_init_5 : decode cX11_init 5 = .ok (.bipush 8, 2) := by decide +kernel
theorem dX11_init_7 : decode cX11_init 7 = .ok (.newarray .int, 2) := by decide +kernel
theorem dX11_init_9 : decode cX11_init 9 = .ok (.putfield 7, 3) := by decide +kernel
theorem dX11_init_12 : decode cX11_init 12 = .ok (.aload_n 0, 1) := by decide +kernel
theorem dX11_init_13 : decode cX11_init 13 = .ok (.bipush 8, 2) := by decide +kernel
theorem dX11_init_15 : decode cX11_init 15 = .ok (.newarray .int, 2) := by decide +kernel
theorem dX11_init_17 : decode cX11_init 17 = .ok (.putfield 13, 3) := by decide +kernel
theorem dX11_init_20 : decode cX11_init 20 = .ok (.aload_n 0, 1) := by decide +kernel
theorem dX11_init_21 : decode cX11_init 21 = .ok (.bipush 8, 2) := by decide +kernel
theorem dX11_init_23 : decode cX11_init 23 = .ok (.newarray .int, 2) := by decide +kernel
theorem dX11_init_25 : decode cX11_init 25 = .ok (.putfield 16, 3) := by decide +kernel
theorem dX11_init_28 : decode cX11_init 28 = .ok (.aload_n 0, 1) := by decide +kernel
theorem dX11_init_29 : decode cX11_init 29 = .ok (.bipush 8, 2) := by decide +kernel
theorem dX11_init_31 : decode cX11_init 31 = .ok (.newarray .int, 2) := by decide +kernel
theorem dX11_init_33 : decode cX11_init 33 = .ok (.putfield 19, 3) := by decide +kernel
theorem dX11_init_36 : decode cX11_init 36 = .ok (.aload_n 0, 1) := by decide +kernel
theorem dX11_init_37 : decode cX11_init 37 = .ok (.bipush 6, 2) := by decide +kernel
theorem dX11_init_39 : decode cX11_init 39 = .ok (.newarray .int, 2) := by decide +kernel
theorem dX11_init_41 : decode cX11_init 41 = .ok (.putfield 22, 3) := by decide +kernel
theorem dX11_init_44 : decode cX11_init 44 = .ok (.aload_n 0, 1) := by decide +kernel
theorem dX11_init_45 : decode cX11_init 45 = .ok (.bipush 6, 2) := by decide +kernel
theorem dX11_init_47 : decode cX11_init 47 = .ok (.newarray .int, 2) := by decide +kernel
theorem dX11_init_49 : decode cX11_init 49 = .ok (.putfield 25, 3) := by decide +kernel
theorem dX11_init_52 : decode cX11_init 52 = .ok (.aload_n 0, 1) := by decide +kernel
theorem dX11_init_53 : decode cX11_init 53 = .ok (.bipush 6, 2) := by decide +kernel
theorem dX11_init_55 : decode cX11_init 55 = .ok (.newarray .int, 2) := by decide +kernel
theorem dX11_init_57 : decode cX11_init 57 = .ok (.putfield 28, 3) := by decide +kernel
theorem dX11_init_60 : decode cX11_init 60 = .ok (.aload_n 0, 1) := by decide +kernel
theorem dX11_init_61 : decode cX11_init 61 = .ok (.bipush 50, 2) := by decide +kernel
theorem dX11_init_63 : decode cX11_init 63 = .ok (.newarray .int, 2) := by decide +kernel
theorem dX11_init_65 : decode cX11_init 65 = .ok (.putfield 31, 3) := by decide +kernel
theorem dX11_init_68 : decode cX11_init 68 = .ok (.aload_n 0, 1) := by decide +kernel
theorem dX11_init_69 : decode cX11_init 69 = .ok (.sipush 180, 3) := by decide +kernel
theorem dX11_init_72 : decode cX11_init 72 = .ok (.newarray .int, 2) := by decide +kernel
theorem dX11_init_74 : decode cX11_init 74 = .ok (.putfield 34, 3) := by decide +kernel
theorem dX11_init_77 : decode cX11_init 77 = .ok (.aload_n 0, 1) := by decide +kernel
theorem dX11_init_78 : decode cX11_init 78 = .ok (.bipush 36, 2) := by decide +kernel
theorem dX11_init_80 : decode cX11_init 80 = .ok (.newarray .int, 2) := by decide +kernel
theorem dX11_init_82 : decode cX11_init 82 = .ok (.putfield 37, 3) := by decide +kernel
theorem dX11_init_85 : decode cX11_init 85 = .ok (.aload_n 0, 1) := by decide +kernel
theorem dX11_init_86 : decode cX11_init 86 = .ok (.bipush 6, 2) := by decide +kernel
theorem dX11_init_88 : decode cX11_init 88 = .ok (.newarray .int, 2) := by decide +kernel
theorem dX11_init_90 : decode cX11_init 90 = .ok (.putfield 40, 3) := by decide +kernel
theorem dX11_init_93 : decode cX11_init 93 = .ok (.aload_n 0, 1) := by decide +kernel
theorem dX11_init_94 : decode cX11_init 94 = .ok (.bipush 6, 2) := by decide +kernel
theorem dX11_init_96 : decode cX11_init 96 = .ok (.newarray .int, 2) := by decide +kernel
theorem dX11_init_98 : decode cX11_init 98 = .ok (.putfield 43, 3) := by decide +kernel
theorem dX11_init_101 : decode cX11_init 101 = .ok (.aload_n 0, 1) := by decide +kernel
theorem dX11_init_102 : decode cX11_init 102 = .ok (.sipush 1536, 3) := by decide +kernel
theorem dX11_init_105 : decode cX11_init 105 = .ok (.newarray .int, 2) := by decide +kernel
theorem dX11_init_107 : decode cX11_init 107 = .ok (.putfield 46, 3) := by decide +kernel
theorem dX11_init_110 : decode cX11_init 110 = .ok (.aload_n 0, 1) := by decide +kernel
theorem dX11_init_111 : decode cX11_init 111 = .ok (.bipush 8, 2) := by decide +kernel
theorem dX11_init_113 : decode cX11_init 113 = .ok (.newarray .int, 2) := by decide +kernel
theorem dX11_init_115 : decode cX11_init 115 = .ok (.putfield 49, 3) := by decide +kernel
theorem dX11_init_118 : decode cX11_init 118 = .ok (.aload_n 0, 1) := by decide +kernel
theorem dX11_init_119 : decode cX11_init 119 = .ok (.bipush 8, 2) := by decide +kernel
theorem dX11_init_121 : decode cX11_init 121 = .ok (.newarray .int, 2) := by decide +kernel
theorem dX11_init_123 : decode cX11_init 123 = .ok (.putfield 52, 3) := by decide +kernel
theorem dX11_init_126 : decode cX11_init 126 = .ok (.aload_n 0, 1) := by decide +kernel
theorem dX11_init_127 : decode cX11_init 127 = .ok (.bipush 8, 2) := by decide +kernel
theorem dX11_init_129 : decode cX11_init 129 = .ok (.newarray .int, 2) := by decide +kernel
theorem dX11_init_131 : decode cX11_init 131 = .ok (.putfield 55, 3) := by decide +kernel
theorem dX11_init_134 : decode cX11_init 134 = .ok (.aload_n 0, 1) := by decide +kernel
theorem dX11_init_135 : decode cX11_init 135 = .ok (.bipush 6, 2) := by decide +kernel
theorem dX11_init_137 : decode cX11_init 137 = .ok (.newarray .int, 2) := by decide +kernel
theorem dX11_init_139 : decode cX11_init 139 = .ok (.putfield 58, 3) := by decide +kernel
theorem dX11_init_142 : decode cX11_init 142 = .ok (.aload_n 0, 1) := by decide +kernel
theorem dX11_init_143 : decode cX11_init 143 = .ok (.bipush 6, 2) := by decide +kernel
theorem dX11_init_145 : decode cX11_init 145 = .ok (.newarray .int, 2) := by decide +kernel
theorem dX11_init_147 : decode cX11_init 147 = .ok (.putfield 61, 3) := by decide +kernel
theorem dX11_init_150 : decode cX11_init 150 = .ok (.aload_n 0, 1) := by decide +kernel
theorem dX11_init_151 : decode cX11_init 151 = .ok (.iconst 3, 1) := by decide +kernel
theorem dX11_init_152 : decode cX11_init 152 = .ok (.newarray .int, 2) := by decide +kernel
theorem dX11_init_154 : decode cX11_init 154 = .ok (.putfield 64, 3) := by decide +kernel
theorem dX11_init_157 : decode cX11_init 157 = .ok (.aload_n 0, 1) := by decide +kernel
theorem dX11_init_158 : decode cX11_init 158 = .ok (.iconst 3, 1) := by decide +kernel
theorem dX11_init_159 : decode cX11_init 159 = .ok (.newarray .int, 2) := by decide +kernel
theorem dX11_init_161 : decode cX11_init 161 = .ok (.putfield 67, 3) := by decide +kernel
theorem dX11_init_164 : decode cX11_init 164 = .ok (.aload_n 0, 1) := by decide +kernel
theorem dX11_init_165 : decode cX11_init 165 = .ok (.sipush 1792, 3) := by decide +kernel
theorem dX11_init_168 : decode cX11_init 168 = .ok (.newarray .int, 2) := by decide +kernel
theorem dX11_init_170 : decode cX11_init 170 = .ok (.putfield 70, 3) := by decide +kernel
theorem dX11_init_173 : decode cX11_init 173 = .ok (.aload_n 0, 1) := by decide +kernel
theorem dX11_init_174 : decode cX11_init 174 = .ok (.bipush 8, 2) := by decide +kernel
theorem dX11_init_176 : decode cX11_init 176 = .ok (.newarray .int, 2) := by decide +kernel
theorem dX11_init_178 : decode cX11_init 178 = .ok (.putfield 73, 3) := by decide +kernel
theorem dX11_init_181 : decode cX11_init 181 = .ok (.aload_n 0, 1) := by decide +kernel
theorem dX11_init_182 : decode cX11_init 182 = .ok (.bipush 8, 2) := by decide +kernel
theorem dX11_init_184 : decode cX11_init 184 = .ok (.newarray .int, 2) := by decide +kernel
theorem dX11_init_186 : decode cX11_init 186 = .ok (.putfield 76, 3) := by decide +kernel
theorem dX11_init_189 : decode cX11_init 189 = .ok (.aload_n 0, 1) := by decide +kernel
theorem dX11_init_190 : decode cX11_init 190 = .ok (.bipush 6, 2) := by decide +kernel
theorem dX11_init_192 : decode cX11_init 192 = .ok (.newarray .int, 2) := by decide +kernel
theorem dX11_init_194 : decode cX11_init 194 = .ok (.putfield 79, 3) := by decide +kernel
theorem dX11_init_197 : decode cX11_init 197 = .ok (.aload_n 0, 1) := by decide +kernel
theorem dX11_init_198 : decode cX11_init 198 = .ok (.bipush 8, 2) := by decide +kernel
theorem dX11_init_200 : decode cX11_init 200 = .ok (.newarray .int, 2) := by decide +kernel
theorem dX11_init_202 : decode cX11_init 202 = .ok (.putfield 82, 3) := by decide +kernel
theorem dX11_init_205 : decode cX11_init 205 = .ok (.aload_n 0, 1) := by decide +kernel
theorem dX11_init_206 : decode cX11_init 206 = .ok (.bipush 8, 2) := by decide +kernel
theorem dX11_init_208 : decode cX11_init 208 = .ok (.newarray .int, 2) := by decide +kernel
theorem dX11_init_210 : decode cX11_init 210 = .ok (.putfield 85, 3) := by decide +kernel
theorem dX11_init_213 : decode cX11_init 213 = .ok (.aload_n 0, 1) := by decide +kernel
theorem dX11_init_214 : decode cX11_init 214 = .ok (.bipush 8, 2) := by decide +kernel
theorem dX11_init_216 : decode cX11_init 216 = .ok (.newarray .int, 2) := by decide +kernel
theorem dX11_init_218 : decode cX11_init 218 = .ok (.putfield 88, 3) := by decide +kernel
theorem dX11_init_221 : decode cX11_init 221 = .ok (.aload_n 0, 1) := by decide +kernel
theorem dX11_init_222 : decode cX11_init 222 = .ok (.bipush 6, 2) := by decide +kernel
theorem dX11_init_224 : decode cX11_init 224 = .ok (.newarray .int, 2) := by decide +kernel
theorem dX11_init_226 : decode cX11_init 226 = .ok (.putfield 91, 3) := by decide +kernel
theorem dX11_init_229 : decode cX11_init 229 = .ok (.aload_n 0, 1) := by decide +kernel
theorem dX11_init_230 : decode cX11_init 230 = .ok (.bipush 8, 2) := by decide +kernel
theorem dX11_init_232 : decode cX11_init 232 = .ok (.newarray .int, 2) := by decide +kernel
theorem dX11_init_234 : decode cX11_init 234 = .ok (.putfield 94, 3) := by decide +kernel
theorem dX11_init_237 : decode cX11_init 237 = .ok (.aload_n 0, 1) := by decide +kernel
theorem dX11_init_238 : decode cX11_init 238 = .ok (.bipush 24, 2) := by decide +kernel
theorem dX11_init_240 : decode cX11_init 240 = .ok (.newarray .int, 2) := by decide +kernel
theorem dX11_init_242 : decode cX11_init 242 = .ok (.putfield 97, 3) := by decide +kernel
theorem dX11_init_245 : decode cX11_init 245 = .ok (.aload_n 0, 1) := by decide +kernel
theorem dX11_init_246 : decode cX11_init 246 = .ok (.bipush 8, 2) := by decide +kernel
theorem dX11_init_248 : decode cX11_init 248 = .ok (.newarray .int, 2) := by decide +kernel
theorem dX11_init_250 : decode cX11_init 250 = .ok (.putfield 100, 3) := by decide +kernel
theorem dX11_init_253 : decode cX11_init 253 = .ok (.aload_n 0, 1) := by decide +kernel
theorem dX11_init_254 : decode cX11_init 254 = .ok (.bipush 100, 2) := by decide +kernel
theorem dX11_init_256 : decode cX11_init 256 = .ok (.putfield 103, 3) := by decide +kernel
theorem dX11_init_259 : decode cX11_init 259 = .ok (.return_, 1) := by decide +kernel
theorem dX11_in_0 : decode cX11_in 0 = .ok (.lload_n 0, 1) := by decide +kernel
theorem dX11_in_1 : decode cX11_in 1 = .ok (.lload_n 2, 1) := by decide +kernel
theorem dX11_in_2 : decode cX11_in 2 = .ok (.lcmp, 1) := by decide +kernel
theorem dX11_in_3 : decode cX11_in 3 = .ok (.ifCond .lt 14, 3) := by decide +kernel
theorem dX11_in_6 : decode cX11_in 6 = .ok (.lload_n 0, 1) := by decide +kernel
theorem dX11_in_7 : decode cX11_in 7 = .ok (.lload 4, 2) := by decide +kernel
theorem dX11_in_9 : decode cX11_in 9 = .ok (.lcmp, 1) := by decide +kernel
theorem dX11_in_10 : decode cX11_in 10 = .ok (.ifCond .gt 7, 3) := by decide +kernel
theorem dX11_in_13 : decode cX11_in 13 = .ok (.iconst 1, 1) := by decide +kernel
theorem dX11_in_14 : decode cX11_in 14 = .ok (.goto 4, 3) := by decide +kernel
theorem dX11_in_17 : decode cX11_in 17 = .ok (.iconst 0, 1) := by decide +kernel
theorem dX11_in_18 : decode cX11_in 18 = .ok (.ireturn, 1) := by decide +kernel
theorem dX11_ones_0 : decode cX11_ones 0 = .ok (.iconst 0, 1) := by decide +kernel
theorem dX11_ones_1 : decode cX11_ones 1 = .ok (.istore_n 1, 1) := by decide +kernel
theorem dX11_ones_2 : decode cX11_ones 2 = .ok (.iconst 0, 1) := by decide +kernel
theorem dX11_ones_3 : decode cX11_ones 3 = .ok (.istore_n 2, 1) := by decide +kernel
theorem dX11_ones_4 : decode cX11_ones 4 = .ok (.iload_n 2, 1) := by decide +kernel
theorem dX11_ones_5 : decode cX11_ones 5 = .ok (.bipush 8, 2) := by decide +kernel
theorem dX11_ones_7 : decode cX11_ones 7 = .ok (.if_icmp .ge 17, 3) := by decide +kernel
theorem dX11_ones_10 : decode cX11_ones 10 = .ok (.iload_n 1, 1) := by decide +kernel
theorem dX11_ones_11 : decode cX11_ones 11 = .ok (.iload_n 0, 1) := by decide +kernel
theorem dX11_ones_12 : decode cX11_ones 12 = .ok (.iload_n 2, 1) := by decide +kernel
theorem dX11_ones_13 : decode cX11_ones 13 = .ok (.ishr, 1) := by decide +kernel
theorem dX11_ones_14 : decode cX11_ones 14 = .ok (.iconst 1, 1) := by decide +kernel
theorem dX11_ones_15 : decode cX11_ones 15 = .ok (.iand, 1) := by decide +kernel
theorem dX11_ones_16 : decode cX11_ones 16 = .ok (.iadd, 1) := by decide +kernel
theorem dX11_ones_17 : decode cX11_ones 17 = .ok (.istore_n 1, 1) := by decide +kernel
theorem dX11_ones_18 : decode cX11_ones 18 = .ok (.iinc 2 1, 3) := by decide +kernel
theorem dX11_ones_21 : decode cX11_ones 21 = .ok (.goto (-17), 3) := by decide +kernel
theorem dX11_ones_24 : decode cX11_ones 24 = .ok (.iload_n 1, 1) := by decide +kernel
theorem dX11_ones_25 : decode cX11_ones 25 = .ok (.ireturn, 1) := by decide +kernel
theorem dX11_isLot_0 : decode cX11_isLot 0 = .ok (.iload_n 1, 1) := by decide +kernel
theorem dX11_isLot_1 : decode cX11_isLot 1 = .ok (.i2l, 1) := by decide +kernel
theorem dX11_isLot_2 : decode cX11_isLot 2 = .ok (.lconst 0, 1) := by decide +kernel
theorem dX11_isLot_3 : decode cX11_isLot 3 = .ok (.aload_n 0, 1) := by decide +kernel
theorem dX11_isLot_4 : decode cX11_isLot 4 = .ok (.getfield 107, 3) := by decide +kernel
theorem dX11_isLot_7 : decode cX11_isLot 7 = .ok (.iconst 1, 1) := by decide +kernel
theorem dX11_isLot_8 : decode cX11_isLot 8 = .ok (.isub, 1) := by decide +kernel
theorem dX11_isLot_9 : decode cX11_isLot 9 = .ok (.i2l, 1) := by decide +kernel
theorem dX11_isLot_10 : decode cX11_isLot 10 = .ok (.invokestatic 110, 3) := by decide +kernel
theorem dX11_isLot_13 : decode cX11_isLot 13 = .ok (.ireturn, 1) := by decide +kernel
theorem dX11_isBuyer_0 : decode cX11_isBuyer 0 = .ok (.iload_n 1, 1) := by decide +kernel
theorem dX11_isBuyer_1 : decode cX11_isBuyer 1 = .ok (.i2l, 1) := by decide +kernel
theorem dX11_isBuyer_2 : decode cX11_isBuyer 2 = .ok (.lconst 0, 1) := by decide +kernel
theorem dX11_isBuyer_3 : decode cX11_isBuyer 3 = .ok (.aload_n 0, 1) := by decide +kernel
theorem dX11_isBuyer_4 : decode cX11_isBuyer 4 = .ok (.getfield 114, 3) := by decide +kernel
theorem dX11_isBuyer_7 : decode cX11_isBuyer 7 = .ok (.iconst 1, 1) := by decide +kernel
theorem dX11_isBuyer_8 : decode cX11_isBuyer 8 = .ok (.isub, 1) := by decide +kernel
theorem dX11_isBuyer_9 : decode cX11_isBuyer 9 = .ok (.i2l, 1) := by decide +kernel
theorem dX11_isBuyer_10 : decode cX11_isBuyer 10 = .ok (.invokestatic 110, 3) := by decide +kernel
theorem dX11_isBuyer_13 : decode cX11_isBuyer 13 = .ok (.ireturn, 1) := by decide +kernel
theorem dX11_lot_0 : decode cX11_lot 0 = .ok (.iload_n 1, 1) := by decide +kernel
theorem dX11_lot_1 : decode cX11_lot 1 = .ok (.i2l, 1) := by decide +kernel
theorem dX11_lot_2 : decode cX11_lot 2 = .ok (.lconst 0, 1) := by decide +kernel
theorem dX11_lot_3 : decode cX11_lot 3 = .ok (.ldc2_w 117, 3) := by decide +kernel
theorem dX11_lot_6 : decode cX11_lot 6 = .ok (.invokestatic 110, 3) := by decide +kernel
theorem dX11_lot_9 : decode cX11_lot 9 = .ok (.ifCond .eq 27, 3) := by decide +kernel
theorem dX11_lot_12 : decode cX11_lot 12 = .ok (.iload_n 2, 1) := by decide +kernel
theorem dX11_lot_13 : decode cX11_lot 13 = .ok (.i2l, 1) := by decide +kernel
theorem dX11_lot_14 : decode cX11_lot 14 = .ok (.lconst 0, 1) := by decide +kernel
theorem dX11_lot_15 : decode cX11_lot 15 = .ok (.ldc2_w 119, 3) := by decide +kernel
theorem dX11_lot_18 : decode cX11_lot 18 = .ok (.invokestatic 110, 3) := by decide +kernel
theorem dX11_lot_21 : decode cX11_lot 21 = .ok (.ifCond .eq 15, 3) := by decide +kernel
theorem dX11_lot_24 : decode cX11_lot 24 = .ok (.iload_n 3, 1) := by decide +kernel
theorem dX11_lot_25 : decode cX11_lot 25 = .ok (.i2l, 1) := by decide +kernel
theorem dX11_lot_26 : decode cX11_lot 26 = .ok (.lconst 0, 1) := by decide +kernel
theorem dX11_lot_27 : decode cX11_lot 27 = .ok (.ldc2_w 121, 3) := by decide +kernel
theorem dX11_lot_30 : decode cX11_lot 30 = .ok (.invokestatic 110, 3) := by decide +kernel
theorem dX11_lot_33 : decode cX11_lot 33 = .ok (.ifCond .ne 6, 3) := by decide +kernel
theorem dX11_lot_36 : decode cX11_lot 36 = .ok (.bipush (-2), 2) := by decide +kernel
theorem dX11_lot_38 : decode cX11_lot 38 = .ok (.ireturn, 1) := by decide +kernel
theorem dX11_lot_39 : decode cX11_lot 39 = .ok (.aload_n 0, 1) := by decide +kernel
theorem dX11_lot_40 : decode cX11_lot 40 = .ok (.getfield 107, 3) := by decide +kernel
theorem dX11_lot_43 : decode cX11_lot 43 = .ok (.bipush 8, 2) := by decide +kernel
theorem dX11_lot_45 : decode cX11_lot 45 = .ok (.if_icmp .ne 6, 3) := by decide +kernel
theorem dX11_lot_48 : decode cX11_lot 48 = .ok (.bipush (-4), 2) := by decide +kernel
theorem dX11_lot_50 : decode cX11_lot 50 = .ok (.ireturn, 1) := by decide +kernel
theorem dX11_lot_51 : decode cX11_lot 51 = .ok (.aload_n 0, 1) := by decide +kernel
theorem dX11_lot_52 : decode cX11_lot 52 = .ok (.getfield 7, 3) := by decide +kernel
theorem dX11_lot_55 : decode cX11_lot 55 = .ok (.aload_n 0, 1) := by decide +kernel
theorem dX11_lot_56 : decode cX11_lot 56 = .ok (.getfield 107, 3) := by decide +kernel
theorem dX11_lot_59 : decode cX11_lot 59 = .ok (.iload_n 1, 1) := by decide +kernel
theorem dX11_lot_60 : decode cX11_lot 60 = .ok (.iastore, 1) := by decide +kernel
theorem dX11_lot_61 : decode cX11_lot 61 = .ok (.aload_n 0, 1) := by decide +kernel
theorem dX11_lot_62 : decode cX11_lot 62 = .ok (.getfield 13, 3) := by decide +kernel
theorem dX11_lot_65 : decode cX11_lot 65 = .ok (.aload_n 0, 1) := by decide +kernel
theorem dX11_lot_66 : decode cX11_lot 66 = .ok (.getfield 107, 3) := by decide +kernel
theorem dX11_lot_69 : decode cX11_lot 69 = .ok (.iload_n 2, 1) := by decide +kernel
theorem dX11_lot_70 : decode cX11_lot 70 = .ok (.iastore, 1) := by decide +kernel
theorem dX11_lot_71 : decode cX11_lot 71 = .ok (.aload_n 0, 1) := by decide +kernel
theorem dX11_lot_72 : decode cX11_lot 72 = .ok (.getfield 16, 3) := by decide +kernel
theorem dX11_lot_75 : decode cX11_lot 75 = .ok (.aload_n 0, 1) := by decide +kernel
theorem dX11_lot_76 : decode cX11_lot 76 = .ok (.getfield 107, 3) := by decide +kernel
theorem dX11_lot_79 : decode cX11_lot 79 = .ok (.iload_n 3, 1) := by decide +kernel
theorem dX11_lot_80 : decode cX11_lot 80 = .ok (.iastore, 1) := by decide +kernel
theorem dX11_lot_81 : decode cX11_lot 81 = .ok (.aload_n 0, 1) := by decide +kernel
theorem dX11_lot_82 : decode cX11_lot 82 = .ok (.getfield 19, 3) := by decide +kernel
theorem dX11_lot_85 : decode cX11_lot 85 = .ok (.aload_n 0, 1) := by decide +kernel
theorem dX11_lot_86 : decode cX11_lot 86 = .ok (.getfield 107, 3) := by decide +kernel
theorem dX11_lot_89 : decode cX11_lot 89 = .ok (.aload_n 0, 1) := by decide +kernel
theorem dX11_lot_90 : decode cX11_lot 90 = .ok (.getfield 107, 3) := by decide +kernel
theorem dX11_lot_93 : decode cX11_lot 93 = .ok (.iastore, 1) := by decide +kernel
theorem dX11_lot_94 : decode cX11_lot 94 = .ok (.aload_n 0, 1) := by decide +kernel
theorem dX11_lot_95 : decode cX11_lot 95 = .ok (.dup, 1) := by decide +kernel
theorem dX11_lot_96 : decode cX11_lot 96 = .ok (.getfield 107, 3) := by decide +kernel
theorem dX11_lot_99 : decode cX11_lot 99 = .ok (.iconst 1, 1) := by decide +kernel
theorem dX11_lot_100 : decode cX11_lot 100 = .ok (.iadd, 1) := by decide +kernel
theorem dX11_lot_101 : decode cX11_lot 101 = .ok (.putfield 107, 3) := by decide +kernel
theorem dX11_lot_104 : decode cX11_lot 104 = .ok (.aload_n 0, 1) := by decide +kernel
theorem dX11_lot_105 : decode cX11_lot 105 = .ok (.getfield 107, 3) := by decide +kernel
theorem dX11_lot_108 : decode cX11_lot 108 = .ok (.iconst 1, 1) := by decide +kernel
theorem dX11_lot_109 : decode cX11_lot 109 = .ok (.isub, 1) := by decide +kernel
theorem dX11_lot_110 : decode cX11_lot 110 = .ok (.ireturn, 1) := by decide +kernel
theorem dX11_buyer_0 : decode cX11_buyer 0 = .ok (.aload_n 0, 1) := by decide +kernel
theorem dX11_buyer_1 : decode cX11_buyer 1 = .ok (.getfield 114, 3) := by decide +kernel
theorem dX11_buyer_4 : decode cX11_buyer 4 = .ok (.bipush 6, 2) := by decide +kernel
theorem dX11_buyer_6 : decode cX11_buyer 6 = .ok (.if_icmp .ne 6, 3) := by decide +kernel
theorem dX11_buyer_9 : decode cX11_buyer 9 = .ok (.bipush (-4), 2) := by decide +kernel
theorem dX11_buyer_11 : decode cX11_buyer 11 = .ok (.ireturn, 1) := by decide +kernel
theorem dX11_buyer_12 : decode cX11_buyer 12 = .ok (.aload_n 0, 1) := by decide +kernel
theorem dX11_buyer_13 : decode cX11_buyer 13 = .ok (.getfield 22, 3) := by decide +kernel
theorem dX11_buyer_16 : decode cX11_buyer 16 = .ok (.aload_n 0, 1) := by decide +kernel
theorem dX11_buyer_17 : decode cX11_buyer 17 = .ok (.getfield 114, 3) := by decide +kernel
theorem dX11_buyer_20 : decode cX11_buyer 20 = .ok (.sipush 200, 3) := by decide +kernel
theorem dX11_buyer_23 : decode cX11_buyer 23 = .ok (.iastore, 1) := by decide +kernel
theorem dX11_buyer_24 : decode cX11_buyer 24 = .ok (.aload_n 0, 1) := by decide +kernel
theorem dX11_buyer_25 : decode cX11_buyer 25 = .ok (.getfield 25, 3) := by decide +kernel
theorem dX11_buyer_28 : decode cX11_buyer 28 = .ok (.aload_n 0, 1) := by decide +kernel
theorem dX11_buyer_29 : decode cX11_buyer 29 = .ok (.getfield 114, 3) := by decide +kernel
theorem dX11_buyer_32 : decode cX11_buyer 32 = .ok (.bipush 10, 2) := by decide +kernel
theorem dX11_buyer_34 : decode cX11_buyer 34 = .ok (.iastore, 1) := by decide +kernel
theorem dX11_buyer_35 : decode cX11_buyer 35 = .ok (.aload_n 0, 1) := by decide +kernel
theorem dX11_buyer_36 : decode cX11_buyer 36 = .ok (.getfield 28, 3) := by decide +kernel
theorem dX11_buyer_39 : decode cX11_buyer 39 = .ok (.aload_n 0, 1) := by decide +kernel
theorem dX11_buyer_40 : decode cX11_buyer 40 = .ok (.getfield 114, 3) := by decide +kernel
theorem dX11_buyer_43 : decode cX11_buyer 43 = .ok (.bipush 50, 2) := by decide +kernel
theorem dX11_buyer_45 : decode cX11_buyer 45 = .ok (.iastore, 1) := by decide +kernel
theorem dX11_buyer_46 : decode cX11_buyer 46 = .ok (.aload_n 0, 1) := by decide +kernel
theorem dX11_buyer_47 : decode cX11_buyer 47 = .ok (.dup, 1) := by decide +kernel
theorem dX11_buyer_48 : decode cX11_buyer 48 = .ok (.getfield 114, 3) := by decide +kernel
theorem dX11_buyer_51 : decode cX11_buyer 51 = .ok (.iconst 1, 1) := by decide +kernel
theorem dX11_buyer_52 : decode cX11_buyer 52 = .ok (.iadd, 1) := by decide +kernel
theorem dX11_buyer_53 : decode cX11_buyer 53 = .ok (.putfield 114, 3) := by decide +kernel
theorem dX11_buyer_56 : decode cX11_buyer 56 = .ok (.aload_n 0, 1) := by decide +kernel
theorem dX11_buyer_57 : decode cX11_buyer 57 = .ok (.getfield 114, 3) := by decide +kernel
theorem dX11_buyer_60 : decode cX11_buyer 60 = .ok (.iconst 1, 1) := by decide +kernel
theorem dX11_buyer_61 : decode cX11_buyer 61 = .ok (.isub, 1) := by decide +kernel
theorem dX11_buyer_62 : decode cX11_buyer 62 = .ok (.ireturn, 1) := by decide +kernel
theorem dX11_set_0 : decode cX11_set 0 = .ok (.aload_n 0, 1) := by decide +kernel
theorem dX11_set_1 : decode cX11_set 1 = .ok (.iload_n 1, 1) := by decide +kernel
theorem dX11_set_2 : decode cX11_set 2 = .ok (.invokevirtual 123, 3) := by decide +kernel
theorem dX11_set_5 : decode cX11_set 5 = .ok (.ifCond .ne 5, 3) := by decide +kernel
theorem dX11_set_8 : decode cX11_set 8 = .ok (.iconst (-1), 1) := by decide +kernel
theorem dX11_set_9 : decode cX11_set 9 = .ok (.ireturn, 1) := by decide +kernel
theorem dX11_set_10 : decode cX11_set 10 = .ok (.iload_n 2, 1) := by decide +kernel
theorem dX11_set_11 : decode cX11_set 11 = .ok (.i2l, 1) := by decide +kernel
theorem dX11_set_12 : decode cX11_set 12 = .ok (.lconst 0, 1) := by decide +kernel
theorem dX11_set_13 : decode cX11_set 13 = .ok (.ldc2_w 119, 3) := by decide +kernel
theorem dX11_set_16 : decode cX11_set 16 = .ok (.invokestatic 110, 3) := by decide +kernel
theorem dX11_set_19 : decode cX11_set 19 = .ok (.ifCond .eq 25, 3) := by decide +kernel
theorem dX11_set_22 : decode cX11_set 22 = .ok (.iload_n 3, 1) := by decide +kernel
theorem dX11_set_23 : decode cX11_set 23 = .ok (.i2l, 1) := by decide +kernel
theorem dX11_set_24 : decode cX11_set 24 = .ok (.lconst 0, 1) := by decide +kernel
theorem dX11_set_25 : decode cX11_set 25 = .ok (.iload_n 2, 1) := by decide +kernel
theorem dX11_set_26 : decode cX11_set 26 = .ok (.ifCond .ne 9, 3) := by decide +kernel
theorem dX11_set_29 : decode cX11_set 29 = .ok (.ldc2_w 127, 3) := by decide +kernel
theorem dX11_set_32 : decode cX11_set 32 = .ok (.goto 6, 3) := by decide +kernel
theorem dX11_set_35 : decode cX11_set 35 = .ok (.ldc2_w 129, 3) := by decide +kernel
theorem dX11_set_38 : decode cX11_set 38 = .ok (.invokestatic 110, 3) := by decide +kernel
theorem dX11_set_41 : decode cX11_set 41 = .ok (.ifCond .ne 6, 3) := by decide +kernel
theorem dX11_set_44 : decode cX11_set 44 = .ok (.bipush (-2), 2) := by decide +kernel
theorem dX11_set_46 : decode cX11_set 46 = .ok (.ireturn, 1) := by decide +kernel
theorem dX11_set_47 : decode cX11_set 47 = .ok (.iload_n 2, 1) := by decide +kernel
theorem dX11_set_48 : decode cX11_set 48 = .ok (.ifCond .ne 12, 3) := by decide +kernel
theorem dX11_set_51 : decode cX11_set 51 = .ok (.aload_n 0, 1) := by decide +kernel
theorem dX11_set_52 : decode cX11_set 52 = .ok (.getfield 22, 3) := by decide +kernel
theorem dX11_set_55 : decode cX11_set 55 = .ok (.iload_n 1, 1) := by decide +kernel
theorem dX11_set_56 : decode cX11_set 56 = .ok (.iaload, 1) := by decide +kernel
theorem dX11_set_57 : decode cX11_set 57 = .ok (.goto 23, 3) := by decide +kernel
theorem dX11_set_60 : decode cX11_set 60 = .ok (.iload_n 2, 1) := by decide +kernel
theorem dX11_set_61 : decode cX11_set 61 = .ok (.iconst 1, 1) := by decide +kernel
theorem dX11_set_62 : decode cX11_set 62 = .ok (.if_icmp .ne 12, 3) := by decide +kernel
theorem dX11_set_65 : decode cX11_set 65 = .ok (.aload_n 0, 1) := by decide +kernel
theorem dX11_set_66 : decode cX11_set 66 = .ok (.getfield 25, 3) := by decide +kernel
theorem dX11_set_69 : decode cX11_set 69 = .ok (.iload_n 1, 1) := by decide +kernel
theorem dX11_set_70 : decode cX11_set 70 = .ok (.iaload, 1) := by decide +kernel
theorem dX11_set_71 : decode cX11_set 71 = .ok (.goto 9, 3) := by decide +kernel
theorem dX11_set_74 : decode cX11_set 74 = .ok (.aload_n 0, 1) := by decide +kernel
theorem dX11_set_75 : decode cX11_set 75 = .ok (.getfield 28, 3) := by decide +kernel
theorem dX11_set_78 : decode cX11_set 78 = .ok (.iload_n 1, 1) := by decide +kernel
theorem dX11_set_79 : decode cX11_set 79 = .ok (.iaload, 1) := by decide +kernel
theorem dX11_set_80 : decode cX11_set 80 = .ok (.istore 4, 2) := by decide +kernel
theorem dX11_set_82 : decode cX11_set 82 = .ok (.iload_n 2, 1) := by decide +kernel
theorem dX11_set_83 : decode cX11_set 83 = .ok (.ifCond .ne 13, 3) := by decide +kernel
theorem dX11_set_86 : decode cX11_set 86 = .ok (.aload_n 0, 1) := by decide +kernel
theorem dX11_set_87 : decode cX11_set 87 = .ok (.getfield 22, 3) := by decide +kernel
theorem dX11_set_90 : decode cX11_set 90 = .ok (.iload_n 1, 1) := by decide +kernel
theorem dX11_set_91 : decode cX11_set 91 = .ok (.iload_n 3, 1) := by decide +kernel
theorem dX11_set_92 : decode cX11_set 92 = .ok (.iastore, 1) := by decide +kernel
theorem dX11_set_93 : decode cX11_set 93 = .ok (.goto 25, 3) := by decide +kernel
theorem dX11_set_96 : decode cX11_set 96 = .ok (.iload_n 2, 1) := by decide +kernel
theorem dX11_set_97 : decode cX11_set 97 = .ok (.iconst 1, 1) := by decide +kernel
theorem dX11_set_98 : decode cX11_set 98 = .ok (.if_icmp .ne 13, 3) := by decide +kernel
theorem dX11_set_101 : decode cX11_set 101 = .ok (.aload_n 0, 1) := by decide +kernel
theorem dX11_set_102 : decode cX11_set 102 = .ok (.getfield 25, 3) := by decide +kernel
theorem dX11_set_105 : decode cX11_set 105 = .ok (.iload_n 1, 1) := by decide +kernel
theorem dX11_set_106 : decode cX11_set 106 = .ok (.iload_n 3, 1) := by decide +kernel
theorem dX11_set_107 : decode cX11_set 107 = .ok (.iastore, 1) := by decide +kernel
theorem dX11_set_108 : decode cX11_set 108 = .ok (.goto 10, 3) := by decide +kernel
theorem dX11_set_111 : decode cX11_set 111 = .ok (.aload_n 0, 1) := by decide +kernel
theorem dX11_set_112 : decode cX11_set 112 = .ok (.getfield 28, 3) := by decide +kernel
theorem dX11_set_115 : decode cX11_set 115 = .ok (.iload_n 1, 1) := by decide +kernel
theorem dX11_set_116 : decode cX11_set 116 = .ok (.iload_n 3, 1) := by decide +kernel
theorem dX11_set_117 : decode cX11_set 117 = .ok (.iastore, 1) := by decide +kernel
theorem dX11_set_118 : decode cX11_set 118 = .ok (.iload 4, 2) := by decide +kernel
theorem dX11_set_120 : decode cX11_set 120 = .ok (.ireturn, 1) := by decide +kernel
theorem dX11_say_0 : decode cX11_say 0 = .ok (.iload_n 1, 1) := by decide +kernel
theorem dX11_say_1 : decode cX11_say 1 = .ok (.i2l, 1) := by decide +kernel
theorem dX11_say_2 : decode cX11_say 2 = .ok (.ldc2_w 131, 3) := by decide +kernel
theorem dX11_say_5 : decode cX11_say 5 = .ok (.ldc2_w 133, 3) := by decide +kernel
theorem dX11_say_8 : decode cX11_say 8 = .ok (.invokestatic 110, 3) := by decide +kernel
theorem dX11_say_11 : decode cX11_say 11 = .ok (.ifCond .ne 6, 3) := by decide +kernel
theorem dX11_say_14 : decode cX11_say 14 = .ok (.bipush (-2), 2) := by decide +kernel
theorem dX11_say_16 : decode cX11_say 16 = .ok (.ireturn, 1) := by decide +kernel
theorem dX11_say_17 : decode cX11_say 17 = .ok (.aload_n 0, 1) := by decide +kernel
theorem dX11_say_18 : decode cX11_say 18 = .ok (.getfield 135, 3) := by decide +kernel
theorem dX11_say_21 : decode cX11_say 21 = .ok (.bipush 50, 2) := by decide +kernel
theorem dX11_say_23 : decode cX11_say 23 = .ok (.if_icmp .ne 6, 3) := by decide +kernel
theorem dX11_say_26 : decode cX11_say 26 = .ok (.bipush (-4), 2) := by decide +kernel
theorem dX11_say_28 : decode cX11_say 28 = .ok (.ireturn, 1) := by decide +kernel
theorem dX11_say_29 : decode cX11_say 29 = .ok (.aload_n 0, 1) := by decide +kernel
theorem dX11_say_30 : decode cX11_say 30 = .ok (.getfield 31, 3) := by decide +kernel
theorem dX11_say_33 : decode cX11_say 33 = .ok (.aload_n 0, 1) := by decide +kernel
theorem dX11_say_34 : decode cX11_say 34 = .ok (.getfield 135, 3) := by decide +kernel
theorem dX11_say_37 : decode cX11_say 37 = .ok (.iload_n 1, 1) := by decide +kernel
theorem dX11_say_38 : decode cX11_say 38 = .ok (.iastore, 1) := by decide +kernel
theorem dX11_say_39 : decode cX11_say 39 = .ok (.aload_n 0, 1) := by decide +kernel
theorem dX11_say_40 : decode cX11_say 40 = .ok (.dup, 1) := by decide +kernel
theorem dX11_say_41 : decode cX11_say 41 = .ok (.getfield 135, 3) := by decide +kernel
theorem dX11_say_44 : decode cX11_say 44 = .ok (.iconst 1, 1) := by decide +kernel
theorem dX11_say_45 : decode cX11_say 45 = .ok (.iadd, 1) := by decide +kernel
theorem dX11_say_46 : decode cX11_say 46 = .ok (.putfield 135, 3) := by decide +kernel
theorem dX11_say_49 : decode cX11_say 49 = .ok (.aload_n 0, 1) := by decide +kernel
theorem dX11_say_50 : decode cX11_say 50 = .ok (.getfield 135, 3) := by decide +kernel
theorem dX11_say_53 : decode cX11_say 53 = .ok (.ireturn, 1) := by decide +kernel
theorem dX11_wipe_0 : decode cX11_wipe 0 = .ok (.aload_n 0, 1) := by decide +kernel
theorem dX11_wipe_1 : decode cX11_wipe 1 = .ok (.getfield 135, 3) := by decide +kernel
theorem dX11_wipe_4 : decode cX11_wipe 4 = .ok (.istore_n 1, 1) := by decide +kernel
theorem dX11_wipe_5 : decode cX11_wipe 5 = .ok (.aload_n 0, 1) := by decide +kernel
theorem dX11_wipe_6 : decode cX11_wipe 6 = .ok (.iconst 0, 1) := by decide +kernel
theorem dX11_wipe_7 : decode cX11_wipe 7 = .ok (.putfield 135, 3) := by decide +kernel
theorem dX11_wipe_10 : decode cX11_wipe 10 = .ok (.iload_n 1, 1) := by decide +kernel
theorem dX11_wipe_11 : decode cX11_wipe 11 = .ok (.ireturn, 1) := by decide +kernel
theorem dX11_stepOf_0 : decode cX11_stepOf 0 = .ok (.iload_n 1, 1) := by decide +kernel
theorem dX11_stepOf_1 : decode cX11_stepOf 1 = .ok (.i2l, 1) := by decide +kernel
theorem dX11_stepOf_2 : decode cX11_stepOf 2 = .ok (.ldc2_w 138, 3) := by decide +kernel
theorem dX11_stepOf_5 : decode cX11_stepOf 5 = .ok (.ldc2_w 140, 3) := by decide +kernel
theorem dX11_stepOf_8 : decode cX11_stepOf 8 = .ok (.invokestatic 110, 3) := by decide +kernel
theorem dX11_stepOf_11 : decode cX11_stepOf 11 = .ok (.istore 4, 2) := by decide +kernel
theorem dX11_stepOf_13 : decode cX11_stepOf 13 = .ok (.iload_n 0, 1) := by decide +kernel
theorem dX11_stepOf_14 : decode cX11_stepOf 14 = .ok (.tableswitch 113 0 3 #[30, 41, 66, 93], 30) := by decide +kernel
theorem dX11_stepOf_44 : decode cX11_stepOf 44 = .ok (.iload 4, 2) := by decide +kernel
theorem dX11_stepOf_46 : decode cX11_stepOf 46 = .ok (.ifCond .eq 7, 3) := by decide +kernel
theorem dX11_stepOf_49 : decode cX11_stepOf 49 = .ok (.iconst 1, 1) := by decide +kernel
theorem dX11_stepOf_50 : decode cX11_stepOf 50 = .ok (.goto 4, 3) := by decide +kernel
theorem dX11_stepOf_53 : decode cX11_stepOf 53 = .ok (.iconst (-1), 1) := by decide +kernel
theorem dX11_stepOf_54 : decode cX11_stepOf 54 = .ok (.ireturn, 1) := by decide +kernel
theorem dX11_stepOf_55 : decode cX11_stepOf 55 = .ok (.iload_n 1, 1) := by decide +kernel
theorem dX11_stepOf_56 : decode cX11_stepOf 56 = .ok (.i2l, 1) := by decide +kernel
theorem dX11_stepOf_57 : decode cX11_stepOf 57 = .ok (.ldc2_w 142, 3) := by decide +kernel
theorem dX11_stepOf_60 : decode cX11_stepOf 60 = .ok (.ldc2_w 144, 3) := by decide +kernel
theorem dX11_stepOf_63 : decode cX11_stepOf 63 = .ok (.invokestatic 110, 3) := by decide +kernel
theorem dX11_stepOf_66 : decode cX11_stepOf 66 = .ok (.ifCond .eq 12, 3) := by decide +kernel
theorem dX11_stepOf_69 : decode cX11_stepOf 69 = .ok (.iload_n 1, 1) := by decide +kernel
theorem dX11_stepOf_70 : decode cX11_stepOf 70 = .ok (.iload_n 2, 1) := by decide +kernel
theorem dX11_stepOf_71 : decode cX11_stepOf 71 = .ok (.if_icmp .le 7, 3) := by decide +kernel
theorem dX11_stepOf_74 : decode cX11_stepOf 74 = .ok (.iconst 2, 1) := by decide +kernel
theorem dX11_stepOf_75 : decode cX11_stepOf 75 = .ok (.goto 4, 3) := by decide +kernel
theorem dX11_stepOf_78 : decode cX11_stepOf 78 = .ok (.iconst (-1), 1) := by decide +kernel
theorem dX11_stepOf_79 : decode cX11_stepOf 79 = .ok (.ireturn, 1) := by decide +kernel
theorem dX11_stepOf_80 : decode cX11_stepOf 80 = .ok (.iload_n 1, 1) := by decide +kernel
theorem dX11_stepOf_81 : decode cX11_stepOf 81 = .ok (.bipush 61, 2) := by decide +kernel
theorem dX11_stepOf_83 : decode cX11_stepOf 83 = .ok (.if_icmp .ne 7, 3) := by decide +kernel
theorem dX11_stepOf_86 : decode cX11_stepOf 86 = .ok (.iconst 3, 1) := by decide +kernel
theorem dX11_stepOf_87 : decode cX11_stepOf 87 = .ok (.goto 19, 3) := by decide +kernel
theorem dX11_stepOf_90 : decode cX11_stepOf 90 = .ok (.iload 4, 2) := by decide +kernel
theorem dX11_stepOf_92 : decode cX11_stepOf 92 = .ok (.ifCond .eq 13, 3) := by decide +kernel
theorem dX11_stepOf_95 : decode cX11_stepOf 95 = .ok (.iload_n 2, 1) := by decide +kernel
theorem dX11_stepOf_96 : decode cX11_stepOf 96 = .ok (.bipush 101, 2) := by decide +kernel
theorem dX11_stepOf_98 : decode cX11_stepOf 98 = .ok (.if_icmp .ge 7, 3) := by decide +kernel
theorem dX11_stepOf_101 : decode cX11_stepOf 101 = .ok (.iconst 1, 1) := by decide +kernel
theorem dX11_stepOf_102 : decode cX11_stepOf 102 = .ok (.goto 4, 3) := by decide +kernel
theorem dX11_stepOf_105 : decode cX11_stepOf 105 = .ok (.iconst (-1), 1) := by decide +kernel
theorem dX11_stepOf_106 : decode cX11_stepOf 106 = .ok (.ireturn, 1) := by decide +kernel
theorem dX11_stepOf_107 : decode cX11_stepOf 107 = .ok (.iload_n 1, 1) := by decide +kernel
theorem dX11_stepOf_108 : decode cX11_stepOf 108 = .ok (.i2l, 1) := by decide +kernel
theorem dX11_stepOf_109 : decode cX11_stepOf 109 = .ok (.ldc2_w 146, 3) := by decide +kernel
theorem dX11_stepOf_112 : decode cX11_stepOf 112 = .ok (.ldc2_w 140, 3) := by decide +kernel
theorem dX11_stepOf_115 : decode cX11_stepOf 115 = .ok (.invokestatic 110, 3) := by decide +kernel
theorem dX11_stepOf_118 : decode cX11_stepOf 118 = .ok (.ifCond .eq 7, 3) := by decide +kernel
theorem dX11_stepOf_121 : decode cX11_stepOf 121 = .ok (.iconst 4, 1) := by decide +kernel
theorem dX11_stepOf_122 : decode cX11_stepOf 122 = .ok (.goto 4, 3) := by decide +kernel
theorem dX11_stepOf_125 : decode cX11_stepOf 125 = .ok (.iconst (-1), 1) := by decide +kernel
theorem dX11_stepOf_126 : decode cX11_stepOf 126 = .ok (.ireturn, 1) := by decide +kernel
theorem dX11_stepOf_127 : decode cX11_stepOf 127 = .ok (.iload_n 1, 1) := by decide +kernel
theorem dX11_stepOf_128 : decode cX11_stepOf 128 = .ok (.i2l, 1) := by decide +kernel
theorem dX11_stepOf_129 : decode cX11_stepOf 129 = .ok (.ldc2_w 146, 3) := by decide +kernel
theorem dX11_stepOf_132 : decode cX11_stepOf 132 = .ok (.ldc2_w 140, 3) := by decide +kernel
theorem dX11_stepOf_135 : decode cX11_stepOf 135 = .ok (.invokestatic 110, 3) := by decide +kernel
theorem dX11_stepOf_138 : decode cX11_stepOf 138 = .ok (.ifCond .eq 17, 3) := by decide +kernel
theorem dX11_stepOf_141 : decode cX11_stepOf 141 = .ok (.iload_n 0, 1) := by decide +kernel
theorem dX11_stepOf_142 : decode cX11_stepOf 142 = .ok (.bipush 6, 2) := by decide +kernel
theorem dX11_stepOf_144 : decode cX11_stepOf 144 = .ok (.if_icmp .ge 9, 3) := by decide +kernel
theorem dX11_stepOf_147 : decode cX11_stepOf 147 = .ok (.iload_n 0, 1) := by decide +kernel
theorem dX11_stepOf_148 : decode cX11_stepOf 148 = .ok (.iconst 1, 1) := by decide +kernel
theorem dX11_stepOf_149 : decode cX11_stepOf 149 = .ok (.iadd, 1) := by decide +kernel
theorem dX11_stepOf_150 : decode cX11_stepOf 150 = .ok (.goto 4, 3) := by decide +kernel
theorem dX11_stepOf_153 : decode cX11_stepOf 153 = .ok (.iconst (-1), 1) := by decide +kernel
theorem dX11_stepOf_154 : decode cX11_stepOf 154 = .ok (.ireturn, 1) := by decide +kernel
theorem dX11_stepOf_155 : decode cX11_stepOf 155 = .ok (.iload_n 1, 1) := by decide +kernel
theorem dX11_stepOf_156 : decode cX11_stepOf 156 = .ok (.bipush 124, 2) := by decide +kernel
theorem dX11_stepOf_158 : decode cX11_stepOf 158 = .ok (.if_icmp .ne 13, 3) := by decide +kernel
theorem dX11_stepOf_161 : decode cX11_stepOf 161 = .ok (.iload_n 3, 1) := by decide +kernel
theorem dX11_stepOf_162 : decode cX11_stepOf 162 = .ok (.bipush 6, 2) := by decide +kernel
theorem dX11_stepOf_164 : decode cX11_stepOf 164 = .ok (.if_icmp .ge 7, 3) := by decide +kernel
theorem dX11_stepOf_167 : decode cX11_stepOf 167 = .ok (.iconst 0, 1) := by decide +kernel
theorem dX11_stepOf_168 : decode cX11_stepOf 168 = .ok (.goto 4, 3) := by decide +kernel
theorem dX11_stepOf_171 : decode cX11_stepOf 171 = .ok (.iconst (-1), 1) := by decide +kernel
theorem dX11_stepOf_172 : decode cX11_stepOf 172 = .ok (.ireturn, 1) := by decide +kernel
theorem dX11_fault_0 : decode cX11_fault 0 = .ok (.iconst 0, 1) := by decide +kernel
theorem dX11_fault_1 : decode cX11_fault 1 = .ok (.istore_n 1, 1) := by decide +kernel
theorem dX11_fault_2 : decode cX11_fault 2 = .ok (.iconst 0, 1) := by decide +kernel
theorem dX11_fault_3 : decode cX11_fault 3 = .ok (.istore_n 2, 1) := by decide +kernel
theorem dX11_fault_4 : decode cX11_fault 4 = .ok (.iconst 1, 1) := by decide +kernel
theorem dX11_fault_5 : decode cX11_fault 5 = .ok (.istore_n 3, 1) := by decide +kernel
theorem dX11_fault_6 : decode cX11_fault 6 = .ok (.iconst 0, 1) := by decide +kernel
theorem dX11_fault_7 : decode cX11_fault 7 = .ok (.istore 4, 2) := by decide +kernel
theorem dX11_fault_9 : decode cX11_fault 9 = .ok (.iload 4, 2) := by decide +kernel
theorem dX11_fault_11 : decode cX11_fault 11 = .ok (.aload_n 0, 1) := by decide +kernel
theorem dX11_fault_12 : decode cX11_fault 12 = .ok (.getfield 135, 3) := by decide +kernel
theorem dX11_fault_15 : decode cX11_fault 15 = .ok (.if_icmp .ge 66, 3) := by decide +kernel
theorem dX11_fault_18 : decode cX11_fault 18 = .ok (.aload_n 0, 1) := by decide +kernel
theorem dX11_fault_19 : decode cX11_fault 19 = .ok (.getfield 31, 3) := by decide +kernel
theorem dX11_fault_22 : decode cX11_fault 22 = .ok (.iload 4, 2) := by decide +kernel
theorem dX11_fault_24 : decode cX11_fault 24 = .ok (.iaload, 1) := by decide +kernel
theorem dX11_fault_25 : decode cX11_fault 25 = .ok (.istore 5, 2) := by decide +kernel
theorem dX11_fault_27 : decode cX11_fault 27 = .ok (.iload_n 1, 1) := by decide +kernel
theorem dX11_fault_28 : decode cX11_fault 28 = .ok (.iload 5, 2) := by decide +kernel
theorem dX11_fault_30 : decode cX11_fault 30 = .ok (.iload_n 2, 1) := by decide +kernel
theorem dX11_fault_31 : decode cX11_fault 31 = .ok (.iload_n 3, 1) := by decide +kernel
theorem dX11_fault_32 : decode cX11_fault 32 = .ok (.invokestatic 148, 3) := by decide +kernel
theorem dX11_fault_35 : decode cX11_fault 35 = .ok (.istore_n 1, 1) := by decide +kernel
theorem dX11_fault_36 : decode cX11_fault 36 = .ok (.iload_n 1, 1) := by decide +kernel
theorem dX11_fault_37 : decode cX11_fault 37 = .ok (.ifCond .ge 6, 3) := by decide +kernel
theorem dX11_fault_40 : decode cX11_fault 40 = .ok (.iload 4, 2) := by decide +kernel
theorem dX11_fault_42 : decode cX11_fault 42 = .ok (.ireturn, 1) := by decide +kernel
theorem dX11_fault_43 : decode cX11_fault 43 = .ok (.iload_n 1, 1) := by decide +kernel
theorem dX11_fault_44 : decode cX11_fault 44 = .ok (.ifCond .ne 7, 3) := by decide +kernel
theorem dX11_fault_47 : decode cX11_fault 47 = .ok (.iconst 0, 1) := by decide +kernel
theorem dX11_fault_48 : decode cX11_fault 48 = .ok (.goto 14, 3) := by decide +kernel
theorem dX11_fault_51 : decode cX11_fault 51 = .ok (.iload_n 1, 1) := by decide +kernel
theorem dX11_fault_52 : decode cX11_fault 52 = .ok (.iconst 2, 1) := by decide +kernel
theorem dX11_fault_53 : decode cX11_fault 53 = .ok (.if_icmp .ne 8, 3) := by decide +kernel
theorem dX11_fault_56 : decode cX11_fault 56 = .ok (.iload 5, 2) := by decide +kernel
theorem dX11_fault_58 : decode cX11_fault 58 = .ok (.goto 4, 3) := by decide +kernel
theorem dX11_fault_61 : decode cX11_fault 61 = .ok (.iload_n 2, 1) := by decide +kernel
theorem dX11_fault_62 : decode cX11_fault 62 = .ok (.istore_n 2, 1) := by decide +kernel
theorem dX11_fault_63 : decode cX11_fault 63 = .ok (.iload_n 3, 1) := by decide +kernel
theorem dX11_fault_64 : decode cX11_fault 64 = .ok (.iload_n 1, 1) := by decide +kernel
theorem dX11_fault_65 : decode cX11_fault 65 = .ok (.ifCond .ne 7, 3) := by decide +kernel
theorem dX11_fault_68 : decode cX11_fault 68 = .ok (.iconst 1, 1) := by decide +kernel
theorem dX11_fault_69 : decode cX11_fault 69 = .ok (.goto 4, 3) := by decide +kernel
theorem dX11_fault_72 : decode cX11_fault 72 = .ok (.iconst 0, 1) := by decide +kernel
theorem dX11_fault_73 : decode cX11_fault 73 = .ok (.iadd, 1) := by decide +kernel
theorem dX11_fault_74 : decode cX11_fault 74 = .ok (.istore_n 3, 1) := by decide +kernel
theorem dX11_fault_75 : decode cX11_fault 75 = .ok (.iinc 4 1, 3) := by decide +kernel
theorem dX11_fault_78 : decode cX11_fault 78 = .ok (.goto (-69), 3) := by decide +kernel
theorem dX11_fault_81 : decode cX11_fault 81 = .ok (.iload_n 1, 1) := by decide +kernel
theorem dX11_fault_82 : decode cX11_fault 82 = .ok (.iconst 3, 1) := by decide +kernel
theorem dX11_fault_83 : decode cX11_fault 83 = .ok (.if_icmp .le 8, 3) := by decide +kernel
theorem dX11_fault_86 : decode cX11_fault 86 = .ok (.bipush (-6), 2) := by decide +kernel
theorem dX11_fault_88 : decode cX11_fault 88 = .ok (.goto 7, 3) := by decide +kernel
theorem dX11_fault_91 : decode cX11_fault 91 = .ok (.aload_n 0, 1) := by decide +kernel
theorem dX11_fault_92 : decode cX11_fault 92 = .ok (.getfield 135, 3) := by decide +kernel
theorem dX11_fault_95 : decode cX11_fault 95 = .ok (.ireturn, 1) := by decide +kernel
theorem dX11_wish_0 : decode cX11_wish 0 = .ok (.aload_n 0, 1) := by decide +kernel
theorem dX11_wish_1 : decode cX11_wish 1 = .ok (.iload_n 1, 1) := by decide +kernel
theorem dX11_wish_2 : decode cX11_wish 2 = .ok (.invokevirtual 123, 3) := by decide +kernel
theorem dX11_wish_5 : decode cX11_wish 5 = .ok (.ifCond .ne 5, 3) := by decide +kernel
theorem dX11_wish_8 : decode cX11_wish 8 = .ok (.iconst (-1), 1) := by decide +kernel
theorem dX11_wish_9 : decode cX11_wish 9 = .ok (.ireturn, 1) := by decide +kernel
theorem dX11_wish_10 : decode cX11_wish 10 = .ok (.aload_n 0, 1) := by decide +kernel
theorem dX11_wish_11 : decode cX11_wish 11 = .ok (.invokevirtual 152, 3) := by decide +kernel
theorem dX11_wish_14 : decode cX11_wish 14 = .ok (.ifCond .lt 6, 3) := by decide +kernel
theorem dX11_wish_17 : decode cX11_wish 17 = .ok (.bipush (-5), 2) := by decide +kernel
theorem dX11_wish_19 : decode cX11_wish 19 = .ok (.ireturn, 1) := by decide +kernel
theorem dX11_wish_20 : decode cX11_wish 20 = .ok (.bipush 6, 2) := by decide +kernel
theorem dX11_wish_22 : decode cX11_wish 22 = .ok (.iload_n 1, 1) := by decide +kernel
theorem dX11_wish_23 : decode cX11_wish 23 = .ok (.imul, 1) := by decide +kernel
theorem dX11_wish_24 : decode cX11_wish 24 = .ok (.istore_n 2, 1) := by decide +kernel
theorem dX11_wish_25 : decode cX11_wish 25 = .ok (.iconst 0, 1) := by decide +kernel
theorem dX11_wish_26 : decode cX11_wish 26 = .ok (.istore_n 3, 1) := by decide +kernel
theorem dX11_wish_27 : decode cX11_wish 27 = .ok (.iconst 0, 1) := by decide +kernel
theorem dX11_wish_28 : decode cX11_wish 28 = .ok (.istore 4, 2) := by decide +kernel
theorem dX11_wish_30 : decode cX11_wish 30 = .ok (.iconst 0, 1) := by decide +kernel
theorem dX11_wish_31 : decode cX11_wish 31 = .ok (.istore 5, 2) := by decide +kernel
theorem dX11_wish_33 : decode cX11_wish 33 = .ok (.iload 5, 2) := by decide +kernel
theorem dX11_wish_35 : decode cX11_wish 35 = .ok (.bipush 30, 2) := by decide +kernel
theorem dX11_wish_37 : decode cX11_wish 37 = .ok (.if_icmp .ge 21, 3) := by decide +kernel
theorem dX11_wish_40 : decode cX11_wish 40 = .ok (.aload_n 0, 1) := by decide +kernel
theorem dX11_wish_41 : decode cX11_wish 41 = .ok (.getfield 34, 3) := by decide +kernel
theorem dX11_wish_44 : decode cX11_wish 44 = .ok (.iconst 5, 1) := by decide +kernel
theorem dX11_wish_45 : decode cX11_wish 45 = .ok (.iload_n 2, 1) := by decide +kernel
theorem dX11_wish_46 : decode cX11_wish 46 = .ok (.imul, 1) := by decide +kernel
theorem dX11_wish_47 : decode cX11_wish 47 = .ok (.iload 5, 2) := by decide +kernel
theorem dX11_wish_49 : decode cX11_wish 49 = .ok (.iadd, 1) := by decide +kernel
theorem dX11_wish_50 : decode cX11_wish 50 = .ok (.iconst 0, 1) := by decide +kernel
theorem dX11_wish_51 : decode cX11_wish 51 = .ok (.iastore, 1) := by decide +kernel
theorem dX11_wish_52 : decode cX11_wish 52 = .ok (.iinc 5 1, 3) := by decide +kernel
theorem dX11_wish_55 : decode cX11_wish 55 = .ok (.goto (-22), 3) := by decide +kernel
theorem dX11_wish_58 : decode cX11_wish 58 = .ok (.iconst 0, 1) := by decide +kernel
theorem dX11_wish_59 : decode cX11_wish 59 = .ok (.istore 5, 2) := by decide +kernel
theorem dX11_wish_61 : decode cX11_wish 61 = .ok (.iload 5, 2) := by decide +kernel
theorem dX11_wish_63 : decode cX11_wish 63 = .ok (.bipush 6, 2) := by decide +kernel
theorem dX11_wish_65 : decode cX11_wish 65 = .ok (.if_icmp .ge 19, 3) := by decide +kernel
theorem dX11_wish_68 : decode cX11_wish 68 = .ok (.aload_n 0, 1) := by decide +kernel
theorem dX11_wish_69 : decode cX11_wish 69 = .ok (.getfield 37, 3) := by decide +kernel
theorem dX11_wish_72 : decode cX11_wish 72 = .ok (.iload_n 2, 1) := by decide +kernel
theorem dX11_wish_73 : decode cX11_wish 73 = .ok (.iload 5, 2) := by decide +kernel
theorem dX11_wish_75 : decode cX11_wish 75 = .ok (.iadd, 1) := by decide +kernel
theorem dX11_wish_76 : decode cX11_wish 76 = .ok (.iconst 0, 1) := by decide +kernel
theorem dX11_wish_77 : decode cX11_wish 77 = .ok (.iastore, 1) := by decide +kernel
theorem dX11_wish_78 : decode cX11_wish 78 = .ok (.iinc 5 1, 3) := by decide +kernel
theorem dX11_wish_81 : decode cX11_wish 81 = .ok (.goto (-20), 3) := by decide +kernel
theorem dX11_wish_84 : decode cX11_wish 84 = .ok (.iconst 0, 1) := by decide +kernel
theorem dX11_wish_85 : decode cX11_wish 85 = .ok (.istore 5, 2) := by decide +kernel
theorem dX11_wish_87 : decode cX11_wish 87 = .ok (.iload 5, 2) := by decide +kernel
theorem dX11_wish_89 : decode cX11_wish 89 = .ok (.aload_n 0, 1) := by decide +kernel
theorem dX11_wish_90 : decode cX11_wish 90 = .ok (.getfield 135, 3) := by decide +kernel
theorem dX11_wish_93 : decode cX11_wish 93 = .ok (.if_icmp .ge 132, 3) := by decide +kernel
theorem dX11_wish_96 : decode cX11_wish 96 = .ok (.aload_n 0, 1) := by decide +kernel
theorem dX11_wish_97 : decode cX11_wish 97 = .ok (.getfield 31, 3) := by decide +kernel
theorem dX11_wish_100 : decode cX11_wish 100 = .ok (.iload 5, 2) := by decide +kernel
theorem dX11_wish_102 : decode cX11_wish 102 = .ok (.iaload, 1) := by decide +kernel
theorem dX11_wish_103 : decode cX11_wish 103 = .ok (.istore 6, 2) := by decide +kernel
theorem dX11_wish_105 : decode cX11_wish 105 = .ok (.iload 6, 2) := by decide +kernel
theorem dX11_wish_107 : decode cX11_wish 107 = .ok (.i2l, 1) := by decide +kernel
theorem dX11_wish_108 : decode cX11_wish 108 = .ok (.ldc2_w 146, 3) := by decide +kernel
theorem dX11_wish_111 : decode cX11_wish 111 = .ok (.ldc2_w 140, 3) := by decide +kernel
theorem dX11_wish_114 : decode cX11_wish 114 = .ok (.invokestatic 110, 3) := by decide +kernel
theorem dX11_wish_117 : decode cX11_wish 117 = .ok (.ifCond .eq 42, 3) := by decide +kernel
theorem dX11_wish_120 : decode cX11_wish 120 = .ok (.aload_n 0, 1) := by decide +kernel
theorem dX11_wish_121 : decode cX11_wish 121 = .ok (.getfield 37, 3) := by decide +kernel
theorem dX11_wish_124 : decode cX11_wish 124 = .ok (.iload_n 2, 1) := by decide +kernel
theorem dX11_wish_125 : decode cX11_wish 125 = .ok (.iload 4, 2) := by decide +kernel
theorem dX11_wish_127 : decode cX11_wish 127 = .ok (.ifCond .eq 21, 3) := by decide +kernel
theorem dX11_wish_130 : decode cX11_wish 130 = .ok (.bipush 10, 2) := by decide +kernel
theorem dX11_wish_132 : decode cX11_wish 132 = .ok (.aload_n 0, 1) := by decide +kernel
theorem dX11_wish_133 : decode cX11_wish 133 = .ok (.getfield 37, 3) := by decide +kernel
theorem dX11_wish_136 : decode cX11_wish 136 = .ok (.iload_n 2, 1) := by decide +kernel
theorem dX11_wish_137 : decode cX11_wish 137 = .ok (.iaload, 1) := by decide +kernel
theorem dX11_wish_138 : decode cX11_wish 138 = .ok (.imul, 1) := by decide +kernel
theorem dX11_wish_139 : decode cX11_wish 139 = .ok (.iload 6, 2) := by decide +kernel
theorem dX11_wish_141 : decode cX11_wish 141 = .ok (.iadd, 1) := by decide +kernel
theorem dX11_wish_142 : decode cX11_wish 142 = .ok (.bipush 48, 2) := by decide +kernel
theorem dX11_wish_144 : decode cX11_wish 144 = .ok (.isub, 1) := by decide +kernel
theorem dX11_wish_145 : decode cX11_wish 145 = .ok (.goto 4, 3) := by decide +kernel
theorem dX11_wish_148 : decode cX11_wish 148 = .ok (.iconst 0, 1) := by decide +kernel
theorem dX11_wish_149 : decode cX11_wish 149 = .ok (.iastore, 1) := by decide +kernel
theorem dX11_wish_150 : decode cX11_wish 150 = .ok (.iload 6, 2) := by decide +kernel
theorem dX11_wish_152 : decode cX11_wish 152 = .ok (.bipush 48, 2) := by decide +kernel
theorem dX11_wish_154 : decode cX11_wish 154 = .ok (.isub, 1) := by decide +kernel
theorem dX11_wish_155 : decode cX11_wish 155 = .ok (.istore_n 3, 1) := by decide +kernel
theorem dX11_wish_156 : decode cX11_wish 156 = .ok (.goto 63, 3) := by decide +kernel
theorem dX11_wish_159 : decode cX11_wish 159 = .ok (.iload 6, 2) := by decide +kernel
theorem dX11_wish_161 : decode cX11_wish 161 = .ok (.i2l, 1) := by decide +kernel
theorem dX11_wish_162 : decode cX11_wish 162 = .ok (.ldc2_w 142, 3) := by decide +kernel
theorem dX11_wish_165 : decode cX11_wish 165 = .ok (.ldc2_w 144, 3) := by decide +kernel
theorem dX11_wish_168 : decode cX11_wish 168 = .ok (.invokestatic 110, 3) := by decide +kernel
theorem dX11_wish_171 : decode cX11_wish 171 = .ok (.ifCond .eq 21, 3) := by decide +kernel
theorem dX11_wish_174 : decode cX11_wish 174 = .ok (.aload_n 0, 1) := by decide +kernel
theorem dX11_wish_175 : decode cX11_wish 175 = .ok (.getfield 34, 3) := by decide +kernel
theorem dX11_wish_178 : decode cX11_wish 178 = .ok (.iconst 5, 1) := by decide +kernel
theorem dX11_wish_179 : decode cX11_wish 179 = .ok (.iload_n 2, 1) := by decide +kernel
theorem dX11_wish_180 : decode cX11_wish 180 = .ok (.imul, 1) := by decide +kernel
theorem dX11_wish_181 : decode cX11_wish 181 = .ok (.iload 6, 2) := by decide +kernel
theorem dX11_wish_183 : decode cX11_wish 183 = .ok (.iadd, 1) := by decide +kernel
theorem dX11_wish_184 : decode cX11_wish 184 = .ok (.bipush 97, 2) := by decide +kernel
theorem dX11_wish_186 : decode cX11_wish 186 = .ok (.isub, 1) := by decide +kernel
theorem dX11_wish_187 : decode cX11_wish 187 = .ok (.iload_n 3, 1) := by decide +kernel
theorem dX11_wish_188 : decode cX11_wish 188 = .ok (.iastore, 1) := by decide +kernel
theorem dX11_wish_189 : decode cX11_wish 189 = .ok (.goto 30, 3) := by decide +kernel
theorem dX11_wish_192 : decode cX11_wish 192 = .ok (.iload 6, 2) := by decide +kernel
theorem dX11_wish_194 : decode cX11_wish 194 = .ok (.bipush 61, 2) := by decide +kernel
theorem dX11_wish_196 : decode cX11_wish 196 = .ok (.if_icmp .ne 7, 3) := by decide +kernel
theorem dX11_wish_199 : decode cX11_wish 199 = .ok (.iconst 1, 1) := by decide +kernel
theorem dX11_wish_200 : decode cX11_wish 200 = .ok (.goto 4, 3) := by decide +kernel
theorem dX11_wish_203 : decode cX11_wish 203 = .ok (.iconst 0, 1) := by decide +kernel
theorem dX11_wish_204 : decode cX11_wish 204 = .ok (.istore 4, 2) := by decide +kernel
theorem dX11_wish_206 : decode cX11_wish 206 = .ok (.iload_n 2, 1) := by decide +kernel
theorem dX11_wish_207 : decode cX11_wish 207 = .ok (.iload 4, 2) := by decide +kernel
theorem dX11_wish_209 : decode cX11_wish 209 = .ok (.ifCond .eq 7, 3) := by decide +kernel
theorem dX11_wish_212 : decode cX11_wish 212 = .ok (.iconst 0, 1) := by decide +kernel
theorem dX11_wish_213 : decode cX11_wish 213 = .ok (.goto 4, 3) := by decide +kernel
theorem dX11_wish_216 : decode cX11_wish 216 = .ok (.iconst 1, 1) := by decide +kernel
theorem dX11_wish_217 : decode cX11_wish 217 = .ok (.iadd, 1) := by decide +kernel
theorem dX11_wish_218 : decode cX11_wish 218 = .ok (.istore_n 2, 1) := by decide +kernel
theorem dX11_wish_219 : decode cX11_wish 219 = .ok (.iinc 5 1, 3) := by decide +kernel
theorem dX11_wish_222 : decode cX11_wish 222 = .ok (.goto (-135), 3) := by decide +kernel
theorem dX11_wish_225 : decode cX11_wish 225 = .ok (.aload_n 0, 1) := by decide +kernel
theorem dX11_wish_226 : decode cX11_wish 226 = .ok (.getfield 40, 3) := by decide +kernel
theorem dX11_wish_229 : decode cX11_wish 229 = .ok (.iload_n 1, 1) := by decide +kernel
theorem dX11_wish_230 : decode cX11_wish 230 = .ok (.iload_n 2, 1) := by decide +kernel
theorem dX11_wish_231 : decode cX11_wish 231 = .ok (.iconst 1, 1) := by decide +kernel
theorem dX11_wish_232 : decode cX11_wish 232 = .ok (.iadd, 1) := by decide +kernel
theorem dX11_wish_233 : decode cX11_wish 233 = .ok (.bipush 6, 2) := by decide +kernel
theorem dX11_wish_235 : decode cX11_wish 235 = .ok (.iload_n 1, 1) := by decide +kernel
theorem dX11_wish_236 : decode cX11_wish 236 = .ok (.imul, 1) := by decide +kernel
theorem dX11_wish_237 : decode cX11_wish 237 = .ok (.isub, 1) := by decide +kernel
theorem dX11_wish_238 : decode cX11_wish 238 = .ok (.iastore, 1) := by decide +kernel
theorem dX11_wish_239 : decode cX11_wish 239 = .ok (.aload_n 0, 1) := by decide +kernel
theorem dX11_wish_240 : decode cX11_wish 240 = .ok (.getfield 43, 3) := by decide +kernel
theorem dX11_wish_243 : decode cX11_wish 243 = .ok (.iload_n 1, 1) := by decide +kernel
theorem dX11_wish_244 : decode cX11_wish 244 = .ok (.iconst 0, 1) := by decide +kernel
theorem dX11_wish_245 : decode cX11_wish 245 = .ok (.iastore, 1) := by decide +kernel
theorem dX11_wish_246 : decode cX11_wish 246 = .ok (.aload_n 0, 1) := by decide +kernel
theorem dX11_wish_247 : decode cX11_wish 247 = .ok (.iconst 0, 1) := by decide +kernel
theorem dX11_wish_248 : decode cX11_wish 248 = .ok (.putfield 135, 3) := by decide +kernel
theorem dX11_wish_251 : decode cX11_wish 251 = .ok (.aload_n 0, 1) := by decide +kernel
theorem dX11_wish_252 : decode cX11_wish 252 = .ok (.getfield 40, 3) := by decide +kernel
theorem dX11_wish_255 : decode cX11_wish 255 = .ok (.iload_n 1, 1) := by decide +kernel
theorem dX11_wish_256 : decode cX11_wish 256 = .ok (.iaload, 1) := by decide +kernel
theorem dX11_wish_257 : decode cX11_wish 257 = .ok (.ireturn, 1) := by decide +kernel
theorem dX11_alternative_0 : decode cX11_alternative 0 = .ok (.aload_n 0, 1) := by decide +kernel
theorem dX11_alternative_1 : decode cX11_alternative 1 = .ok (.iload_n 1, 1) := by decide +kernel
theorem dX11_alternative_2 : decode cX11_alternative 2 = .ok (.invokevirtual 123, 3) := by decide +kernel
theorem dX11_alternative_5 : decode cX11_alternative 5 = .ok (.ifCond .eq 21, 3) := by decide +kernel
theorem dX11_alternative_8 : decode cX11_alternative 8 = .ok (.iload_n 2, 1) := by decide +kernel
theorem dX11_alternative_9 : decode cX11_alternative 9 = .ok (.i2l, 1) := by decide +kernel
theorem dX11_alternative_10 : decode cX11_alternative 10 = .ok (.lconst 0, 1) := by decide +kernel
theorem dX11_alternative_11 : decode cX11_alternative 11 = .ok (.aload_n 0, 1) := by decide +kernel
theorem dX11_alternative_12 : decode cX11_alternative 12 = .ok (.getfield 40, 3) := by decide +kernel
theorem dX11_alternative_15 : decode cX11_alternative 15 = .ok (.iload_n 1, 1) := by decide +kernel
theorem dX11_alternative_16 : decode cX11_alternative 16 = .ok (.iaload, 1) := by decide +kernel
theorem dX11_alternative_17 : decode cX11_alternative 17 = .ok (.iconst 1, 1) := by decide +kernel
theorem dX11_alternative_18 : decode cX11_alternative 18 = .ok (.isub, 1) := by decide +kernel
theorem dX11_alternative_19 : decode cX11_alternative 19 = .ok (.i2l, 1) := by decide +kernel
theorem dX11_alternative_20 : decode cX11_alternative 20 = .ok (.invokestatic 110, 3) := by decide +kernel
theorem dX11_alternative_23 : decode cX11_alternative 23 = .ok (.ifCond .ne 5, 3) := by decide +kernel
theorem dX11_alternative_26 : decode cX11_alternative 26 = .ok (.iconst (-1), 1) := by decide +kernel
theorem dX11_alternative_27 : decode cX11_alternative 27 = .ok (.ireturn, 1) := by decide +kernel
theorem dX11_alternative_28 : decode cX11_alternative 28 = .ok (.iload_n 3, 1) := by decide +kernel
theorem dX11_alternative_29 : decode cX11_alternative 29 = .ok (.i2l, 1) := by decide +kernel
theorem dX11_alternative_30 : decode cX11_alternative 30 = .ok (.lconst 0, 1) := by decide +kernel
theorem dX11_alternative_31 : decode cX11_alternative 31 = .ok (.ldc2_w 156, 3) := by decide +kernel
theorem dX11_alternative_34 : decode cX11_alternative 34 = .ok (.invokestatic 110, 3) := by decide +kernel
theorem dX11_alternative_37 : decode cX11_alternative 37 = .ok (.ifCond .ne 6, 3) := by decide +kernel
theorem dX11_alternative_40 : decode cX11_alternative 40 = .ok (.bipush (-2), 2) := by decide +kernel
theorem dX11_alternative_42 : decode cX11_alternative 42 = .ok (.ireturn, 1) := by decide +kernel
theorem dX11_alternative_43 : decode cX11_alternative 43 = .ok (.bipush 6, 2) := by decide +kernel
theorem dX11_alternative_45 : decode cX11_alternative 45 = .ok (.iload_n 1, 1) := by decide +kernel
theorem dX11_alternative_46 : decode cX11_alternative 46 = .ok (.imul, 1) := by decide +kernel
theorem dX11_alternative_47 : decode cX11_alternative 47 = .ok (.iload_n 2, 1) := by decide +kernel
theorem dX11_alternative_48 : decode cX11_alternative 48 = .ok (.iadd, 1) := by decide +kernel
theorem dX11_alternative_49 : decode cX11_alternative 49 = .ok (.istore 4, 2) := by decide +kernel
theorem dX11_alternative_51 : decode cX11_alternative 51 = .ok (.iload_n 3, 1) := by decide +kernel
theorem dX11_alternative_52 : decode cX11_alternative 52 = .ok (.ifCond .ne 13, 3) := by decide +kernel
theorem dX11_alternative_55 : decode cX11_alternative 55 = .ok (.aload_n 0, 1) := by decide +kernel
theorem dX11_alternative_56 : decode cX11_alternative 56 = .ok (.getfield 37, 3) := by decide +kernel
theorem dX11_alternative_59 : decode cX11_alternative 59 = .ok (.iload 4, 2) := by decide +kernel
theorem dX11_alternative_61 : decode cX11_alternative 61 = .ok (.iaload, 1) := by decide +kernel
theorem dX11_alternative_62 : decode cX11_alternative 62 = .ok (.goto 16, 3) := by decide +kernel
theorem dX11_alternative_65 : decode cX11_alternative 65 = .ok (.aload_n 0, 1) := by decide +kernel
theorem dX11_alternative_66 : decode cX11_alternative 66 = .ok (.getfield 34, 3) := by decide +kernel
theorem dX11_alternative_69 : decode cX11_alternative 69 = .ok (.iconst 5, 1) := by decide +kernel
theorem dX11_alternative_70 : decode cX11_alternative 70 = .ok (.iload 4, 2) := by decide +kernel
theorem dX11_alternative_72 : decode cX11_alternative 72 = .ok (.imul, 1) := by decide +kernel
theorem dX11_alternative_73 : decode cX11_alternative 73 = .ok (.iload_n 3, 1) := by decide +kernel
theorem dX11_alternative_74 : decode cX11_alternative 74 = .ok (.iadd, 1) := by decide +kernel
theorem dX11_alternative_75 : decode cX11_alternative 75 = .ok (.iconst 1, 1) := by decide +kernel
theorem dX11_alternative_76 : decode cX11_alternative 76 = .ok (.isub, 1) := by decide +kernel
theorem dX11_alternative_77 : decode cX11_alternative 77 = .ok (.iaload, 1) := by decide +kernel
theorem dX11_alternative_78 : decode cX11_alternative 78 = .ok (.ireturn, 1) := by decide +kernel
theorem dX11_leave_0 : decode cX11_leave 0 = .ok (.aload_n 0, 1) := by decide +kernel
theorem dX11_leave_1 : decode cX11_leave 1 = .ok (.iload_n 1, 1) := by decide +kernel
theorem dX11_leave_2 : decode cX11_leave 2 = .ok (.invokevirtual 123, 3) := by decide +kernel
theorem dX11_leave_5 : decode cX11_leave 5 = .ok (.ifCond .ne 5, 3) := by decide +kernel
theorem dX11_leave_8 : decode cX11_leave 8 = .ok (.iconst (-1), 1) := by decide +kernel
theorem dX11_leave_9 : decode cX11_leave 9 = .ok (.ireturn, 1) := by decide +kernel
theorem dX11_leave_10 : decode cX11_leave 10 = .ok (.iload_n 2, 1) := by decide +kernel
theorem dX11_leave_11 : decode cX11_leave 11 = .ok (.i2l, 1) := by decide +kernel
theorem dX11_leave_12 : decode cX11_leave 12 = .ok (.lconst 0, 1) := by decide +kernel
theorem dX11_leave_13 : decode cX11_leave 13 = .ok (.iconst 1, 1) := by decide +kernel
theorem dX11_leave_14 : decode cX11_leave 14 = .ok (.aload_n 0, 1) := by decide +kernel
theorem dX11_leave_15 : decode cX11_leave 15 = .ok (.getfield 40, 3) := by decide +kernel
theorem dX11_leave_18 : decode cX11_leave 18 = .ok (.iload_n 1, 1) := by decide +kernel
theorem dX11_leave_19 : decode cX11_leave 19 = .ok (.iaload, 1) := by decide +kernel
theorem dX11_leave_20 : decode cX11_leave 20 = .ok (.ishl, 1) := by decide +kernel
theorem dX11_leave_21 : decode cX11_leave 21 = .ok (.iconst 1, 1) := by decide +kernel
theorem dX11_leave_22 : decode cX11_leave 22 = .ok (.isub, 1) := by decide +kernel
theorem dX11_leave_23 : decode cX11_leave 23 = .ok (.i2l, 1) := by decide +kernel
theorem dX11_leave_24 : decode cX11_leave 24 = .ok (.invokestatic 110, 3) := by decide +kernel
theorem dX11_leave_27 : decode cX11_leave 27 = .ok (.ifCond .ne 6, 3) := by decide +kernel
theorem dX11_leave_30 : decode cX11_leave 30 = .ok (.bipush (-2), 2) := by decide +kernel
theorem dX11_leave_32 : decode cX11_leave 32 = .ok (.ireturn, 1) := by decide +kernel
theorem dX11_leave_33 : decode cX11_leave 33 = .ok (.aload_n 0, 1) := by decide +kernel
theorem dX11_leave_34 : decode cX11_leave 34 = .ok (.getfield 43, 3) := by decide +kernel
theorem dX11_leave_37 : decode cX11_leave 37 = .ok (.iload_n 1, 1) := by decide +kernel
theorem dX11_leave_38 : decode cX11_leave 38 = .ok (.iaload, 1) := by decide +kernel
theorem dX11_leave_39 : decode cX11_leave 39 = .ok (.istore_n 3, 1) := by decide +kernel
theorem dX11_leave_40 : decode cX11_leave 40 = .ok (.aload_n 0, 1) := by decide +kernel
theorem dX11_leave_41 : decode cX11_leave 41 = .ok (.getfield 43, 3) := by decide +kernel
theorem dX11_leave_44 : decode cX11_leave 44 = .ok (.iload_n 1, 1) := by decide +kernel
theorem dX11_leave_45 : decode cX11_leave 45 = .ok (.iload_n 2, 1) := by decide +kernel
theorem dX11_leave_46 : decode cX11_leave 46 = .ok (.iastore, 1) := by decide +kernel
theorem dX11_leave_47 : decode cX11_leave 47 = .ok (.iload_n 3, 1) := by decide +kernel
theorem dX11_leave_48 : decode cX11_leave 48 = .ok (.ireturn, 1) := by decide +kernel
theorem dX11_isMet_0 : decode cX11_isMet 0 = .ok (.iconst 1, 1) := by decide +kernel
theorem dX11_isMet_1 : decode cX11_isMet 1 = .ok (.istore_n 3, 1) := by decide +kernel
theorem dX11_isMet_2 : decode cX11_isMet 2 = .ok (.iconst 0, 1) := by decide +kernel
theorem dX11_isMet_3 : decode cX11_isMet 3 = .ok (.istore 4, 2) := by decide +kernel
theorem dX11_isMet_5 : decode cX11_isMet 5 = .ok (.iload 4, 2) := by decide +kernel
theorem dX11_isMet_7 : decode cX11_isMet 7 = .ok (.iconst 5, 1) := by decide +kernel
theorem dX11_isMet_8 : decode cX11_isMet 8 = .ok (.if_icmp .ge 88, 3) := by decide +kernel
theorem dX11_isMet_11 : decode cX11_isMet 11 = .ok (.iconst 0, 1) := by decide +kernel
theorem dX11_isMet_12 : decode cX11_isMet 12 = .ok (.istore 5, 2) := by decide +kernel
theorem dX11_isMet_14 : decode cX11_isMet 14 = .ok (.iconst 0, 1) := by decide +kernel
theorem dX11_isMet_15 : decode cX11_isMet 15 = .ok (.istore 6, 2) := by decide +kernel
theorem dX11_isMet_17 : decode cX11_isMet 17 = .ok (.iload 6, 2) := by decide +kernel
theorem dX11_isMet_19 : decode cX11_isMet 19 = .ok (.aload_n 0, 1) := by decide +kernel
theorem dX11_isMet_20 : decode cX11_isMet 20 = .ok (.getfield 107, 3) := by decide +kernel
theorem dX11_isMet_23 : decode cX11_isMet 23 = .ok (.if_icmp .ge 41, 3) := by decide +kernel
theorem dX11_isMet_26 : decode cX11_isMet 26 = .ok (.iload 5, 2) := by decide +kernel
theorem dX11_isMet_28 : decode cX11_isMet 28 = .ok (.iload_n 2, 1) := by decide +kernel
theorem dX11_isMet_29 : decode cX11_isMet 29 = .ok (.iload 6, 2) := by decide +kernel
theorem dX11_isMet_31 : decode cX11_isMet 31 = .ok (.ishr, 1) := by decide +kernel
theorem dX11_isMet_32 : decode cX11_isMet 32 = .ok (.iconst 1, 1) := by decide +kernel
theorem dX11_isMet_33 : decode cX11_isMet 33 = .ok (.iand, 1) := by decide +kernel
theorem dX11_isMet_34 : decode cX11_isMet 34 = .ok (.iconst 1, 1) := by decide +kernel
theorem dX11_isMet_35 : decode cX11_isMet 35 = .ok (.if_icmp .ne 19, 3) := by decide +kernel
theorem dX11_isMet_38 : decode cX11_isMet 38 = .ok (.aload_n 0, 1) := by decide +kernel
theorem dX11_isMet_39 : decode cX11_isMet 39 = .ok (.getfield 7, 3) := by decide +kernel
theorem dX11_isMet_42 : decode cX11_isMet 42 = .ok (.iload 6, 2) := by decide +kernel
theorem dX11_isMet_44 : decode cX11_isMet 44 = .ok (.iaload, 1) := by decide +kernel
theorem dX11_isMet_45 : decode cX11_isMet 45 = .ok (.iload 4, 2) := by decide +kernel
theorem dX11_isMet_47 : decode cX11_isMet 47 = .ok (.if_icmp .ne 7, 3) := by decide +kernel
theorem dX11_isMet_50 : decode cX11_isMet 50 = .ok (.iconst 1, 1) := by decide +kernel
theorem dX11_isMet_51 : decode cX11_isMet 51 = .ok (.goto 4, 3) := by decide +kernel
theorem dX11_isMet_54 : decode cX11_isMet 54 = .ok (.iconst 0, 1) := by decide +kernel
theorem dX11_isMet_55 : decode cX11_isMet 55 = .ok (.iadd, 1) := by decide +kernel
theorem dX11_isMet_56 : decode cX11_isMet 56 = .ok (.istore 5, 2) := by decide +kernel
theorem dX11_isMet_58 : decode cX11_isMet 58 = .ok (.iinc 6 1, 3) := by decide +kernel
theorem dX11_isMet_61 : decode cX11_isMet 61 = .ok (.goto (-44), 3) := by decide +kernel
theorem dX11_isMet_64 : decode cX11_isMet 64 = .ok (.iload_n 3, 1) := by decide +kernel
theorem dX11_isMet_65 : decode cX11_isMet 65 = .ok (.ifCond .eq 23, 3) := by decide +kernel
theorem dX11_isMet_68 : decode cX11_isMet 68 = .ok (.iload 5, 2) := by decide +kernel
theorem dX11_isMet_70 : decode cX11_isMet 70 = .ok (.aload_n 0, 1) := by decide +kernel
theorem dX11_isMet_71 : decode cX11_isMet 71 = .ok (.getfield 34, 3) := by decide +kernel
theorem dX11_isMet_74 : decode cX11_isMet 74 = .ok (.iconst 5, 1) := by decide +kernel
theorem dX11_isMet_75 : decode cX11_isMet 75 = .ok (.iload_n 1, 1) := by decide +kernel
theorem dX11_isMet_76 : decode cX11_isMet 76 = .ok (.imul, 1) := by decide +kernel
theorem dX11_isMet_77 : decode cX11_isMet 77 = .ok (.iload 4, 2) := by decide +kernel
theorem dX11_isMet_79 : decode cX11_isMet 79 = .ok (.iadd, 1) := by decide +kernel
theorem dX11_isMet_80 : decode cX11_isMet 80 = .ok (.iaload, 1) := by decide +kernel
theorem dX11_isMet_81 : decode cX11_isMet 81 = .ok (.if_icmp .lt 7, 3) := by decide +kernel
theorem dX11_isMet_84 : decode cX11_isMet 84 = .ok (.iconst 1, 1) := by decide +kernel
theorem dX11_isMet_85 : decode cX11_isMet 85 = .ok (.goto 4, 3) := by decide +kernel
theorem dX11_isMet_88 : decode cX11_isMet 88 = .ok (.iconst 0, 1) := by decide +kernel
theorem dX11_isMet_89 : decode cX11_isMet 89 = .ok (.istore_n 3, 1) := by decide +kernel
theorem dX11_isMet_90 : decode cX11_isMet 90 = .ok (.iinc 4 1, 3) := by decide +kernel
theorem dX11_isMet_93 : decode cX11_isMet 93 = .ok (.goto (-88), 3) := by decide +kernel
theorem dX11_isMet_96 : decode cX11_isMet 96 = .ok (.iload_n 3, 1) := by decide +kernel
theorem dX11_isMet_97 : decode cX11_isMet 97 = .ok (.ireturn, 1) := by decide +kernel
theorem dX11_bestOf_0 : decode cX11_bestOf 0 = .ok (.bipush (-6), 2) := by decide +kernel
theorem dX11_bestOf_2 : decode cX11_bestOf 2 = .ok (.istore_n 3, 1) := by decide +kernel
theorem dX11_bestOf_3 : decode cX11_bestOf 3 = .ok (.iconst 0, 1) := by decide +kernel
theorem dX11_bestOf_4 : decode cX11_bestOf 4 = .ok (.istore 4, 2) := by decide +kernel
theorem dX11_bestOf_6 : decode cX11_bestOf 6 = .ok (.iload 4, 2) := by decide +kernel
theorem dX11_bestOf_8 : decode cX11_bestOf 8 = .ok (.aload_n 0, 1) := by decide +kernel
theorem dX11_bestOf_9 : decode cX11_bestOf 9 = .ok (.getfield 40, 3) := by decide +kernel
theorem dX11_bestOf_12 : decode cX11_bestOf 12 = .ok (.iload_n 1, 1) := by decide +kernel
theorem dX11_bestOf_13 : decode cX11_bestOf 13 = .ok (.iaload, 1) := by decide +kernel
theorem dX11_bestOf_14 : decode cX11_bestOf 14 = .ok (.if_icmp .ge 86, 3) := by decide +kernel
theorem dX11_bestOf_17 : decode cX11_bestOf 17 = .ok (.bipush 6, 2) := by decide +kernel
theorem dX11_bestOf_19 : decode cX11_bestOf 19 = .ok (.iload_n 1, 1) := by decide +kernel
theorem dX11_bestOf_20 : decode cX11_bestOf 20 = .ok (.imul, 1) := by decide +kernel
theorem dX11_bestOf_21 : decode cX11_bestOf 21 = .ok (.iload 4, 2) := by decide +kernel
theorem dX11_bestOf_23 : decode cX11_bestOf 23 = .ok (.iadd, 1) := by decide +kernel
theorem dX11_bestOf_24 : decode cX11_bestOf 24 = .ok (.istore 5, 2) := by decide +kernel
theorem dX11_bestOf_26 : decode cX11_bestOf 26 = .ok (.aload_n 0, 1) := by decide +kernel
theorem dX11_bestOf_27 : decode cX11_bestOf 27 = .ok (.getfield 43, 3) := by decide +kernel
theorem dX11_bestOf_30 : decode cX11_bestOf 30 = .ok (.iload_n 1, 1) := by decide +kernel
theorem dX11_bestOf_31 : decode cX11_bestOf 31 = .ok (.iaload, 1) := by decide +kernel
theorem dX11_bestOf_32 : decode cX11_bestOf 32 = .ok (.iload 4, 2) := by decide +kernel
theorem dX11_bestOf_34 : decode cX11_bestOf 34 = .ok (.ishr, 1) := by decide +kernel
theorem dX11_bestOf_35 : decode cX11_bestOf 35 = .ok (.iconst 1, 1) := by decide +kernel
theorem dX11_bestOf_36 : decode cX11_bestOf 36 = .ok (.iand, 1) := by decide +kernel
theorem dX11_bestOf_37 : decode cX11_bestOf 37 = .ok (.ifCond .ne 17, 3) := by decide +kernel
theorem dX11_bestOf_40 : decode cX11_bestOf 40 = .ok (.aload_n 0, 1) := by decide +kernel
theorem dX11_bestOf_41 : decode cX11_bestOf 41 = .ok (.iload 5, 2) := by decide +kernel
theorem dX11_bestOf_43 : decode cX11_bestOf 43 = .ok (.iload_n 2, 1) := by decide +kernel
theorem dX11_bestOf_44 : decode cX11_bestOf 44 = .ok (.invokevirtual 158, 3) := by decide +kernel
theorem dX11_bestOf_47 : decode cX11_bestOf 47 = .ok (.ifCond .eq 7, 3) := by decide +kernel
theorem dX11_bestOf_50 : decode cX11_bestOf 50 = .ok (.iconst 1, 1) := by decide +kernel
theorem dX11_bestOf_51 : decode cX11_bestOf 51 = .ok (.goto 4, 3) := by decide +kernel
theorem dX11_bestOf_54 : decode cX11_bestOf 54 = .ok (.iconst 0, 1) := by decide +kernel
theorem dX11_bestOf_55 : decode cX11_bestOf 55 = .ok (.istore 6, 2) := by decide +kernel
theorem dX11_bestOf_57 : decode cX11_bestOf 57 = .ok (.iload 6, 2) := by decide +kernel
theorem dX11_bestOf_59 : decode cX11_bestOf 59 = .ok (.ifCond .eq 33, 3) := by decide +kernel
theorem dX11_bestOf_62 : decode cX11_bestOf 62 = .ok (.iload_n 3, 1) := by decide +kernel
theorem dX11_bestOf_63 : decode cX11_bestOf 63 = .ok (.ifCond .lt 24, 3) := by decide +kernel
theorem dX11_bestOf_66 : decode cX11_bestOf 66 = .ok (.aload_n 0, 1) := by decide +kernel
theorem dX11_bestOf_67 : decode cX11_bestOf 67 = .ok (.getfield 37, 3) := by decide +kernel
theorem dX11_bestOf_70 : decode cX11_bestOf 70 = .ok (.iload 5, 2) := by decide +kernel
theorem dX11_bestOf_72 : decode cX11_bestOf 72 = .ok (.iaload, 1) := by decide +kernel
theorem dX11_bestOf_73 : decode cX11_bestOf 73 = .ok (.aload_n 0, 1) := by decide +kernel
theorem dX11_bestOf_74 : decode cX11_bestOf 74 = .ok (.getfield 37, 3) := by decide +kernel
theorem dX11_bestOf_77 : decode cX11_bestOf 77 = .ok (.bipush 6, 2) := by decide +kernel
theorem dX11_bestOf_79 : decode cX11_bestOf 79 = .ok (.iload_n 1, 1) := by decide +kernel
theorem dX11_bestOf_80 : decode cX11_bestOf 80 = .ok (.imul, 1) := by decide +kernel
theorem dX11_bestOf_81 : decode cX11_bestOf 81 = .ok (.iload_n 3, 1) := by decide +kernel
theorem dX11_bestOf_82 : decode cX11_bestOf 82 = .ok (.iadd, 1) := by decide +kernel
theorem dX11_bestOf_83 : decode cX11_bestOf 83 = .ok (.iaload, 1) := by decide +kernel
theorem dX11_bestOf_84 : decode cX11_bestOf 84 = .ok (.if_icmp .le 8, 3) := by decide +kernel
theorem dX11_bestOf_87 : decode cX11_bestOf 87 = .ok (.iload 4, 2) := by decide +kernel
theorem dX11_bestOf_89 : decode cX11_bestOf 89 = .ok (.goto 4, 3) := by decide +kernel
theorem dX11_bestOf_92 : decode cX11_bestOf 92 = .ok (.iload_n 3, 1) := by decide +kernel
theorem dX11_bestOf_93 : decode cX11_bestOf 93 = .ok (.istore_n 3, 1) := by decide +kernel
theorem dX11_bestOf_94 : decode cX11_bestOf 94 = .ok (.iinc 4 1, 3) := by decide +kernel
theorem dX11_bestOf_97 : decode cX11_bestOf 97 = .ok (.goto (-91), 3) := by decide +kernel
theorem dX11_bestOf_100 : decode cX11_bestOf 100 = .ok (.iload_n 3, 1) := by decide +kernel
theorem dX11_bestOf_101 : decode cX11_bestOf 101 = .ok (.ireturn, 1) := by decide +kernel
theorem dX11_isHeap_0 : decode cX11_isHeap 0 = .ok (.iload_n 1, 1) := by decide +kernel
theorem dX11_isHeap_1 : decode cX11_isHeap 1 = .ok (.i2l, 1) := by decide +kernel
theorem dX11_isHeap_2 : decode cX11_isHeap 2 = .ok (.lconst 0, 1) := by decide +kernel
theorem dX11_isHeap_3 : decode cX11_isHeap 3 = .ok (.iconst 1, 1) := by decide +kernel
theorem dX11_isHeap_4 : decode cX11_isHeap 4 = .ok (.aload_n 0, 1) := by decide +kernel
theorem dX11_isHeap_5 : decode cX11_isHeap 5 = .ok (.getfield 107, 3) := by decide +kernel
theorem dX11_isHeap_8 : decode cX11_isHeap 8 = .ok (.ishl, 1) := by decide +kernel
theorem dX11_isHeap_9 : decode cX11_isHeap 9 = .ok (.iconst 1, 1) := by decide +kernel
theorem dX11_isHeap_10 : decode cX11_isHeap 10 = .ok (.isub, 1) := by decide +kernel
theorem dX11_isHeap_11 : decode cX11_isHeap 11 = .ok (.i2l, 1) := by decide +kernel
theorem dX11_isHeap_12 : decode cX11_isHeap 12 = .ok (.invokestatic 110, 3) := by decide +kernel
theorem dX11_isHeap_15 : decode cX11_isHeap 15 = .ok (.ireturn, 1) := by decide +kernel
theorem dX11_worth_0 : decode cX11_worth 0 = .ok (.aload_n 0, 1) := by decide +kernel
theorem dX11_worth_1 : decode cX11_worth 1 = .ok (.iload_n 1, 1) := by decide +kernel
theorem dX11_worth_2 : decode cX11_worth 2 = .ok (.invokevirtual 123, 3) := by decide +kernel
theorem dX11_worth_5 : decode cX11_worth 5 = .ok (.ifCond .ne 5, 3) := by decide +kernel
theorem dX11_worth_8 : decode cX11_worth 8 = .ok (.iconst (-1), 1) := by decide +kernel
theorem dX11_worth_9 : decode cX11_worth 9 = .ok (.ireturn, 1) := by decide +kernel
theorem dX11_worth_10 : decode cX11_worth 10 = .ok (.aload_n 0, 1) := by decide +kernel
theorem dX11_worth_11 : decode cX11_worth 11 = .ok (.iload_n 2, 1) := by decide +kernel
theorem dX11_worth_12 : decode cX11_worth 12 = .ok (.invokevirtual 162, 3) := by decide +kernel
theorem dX11_worth_15 : decode cX11_worth 15 = .ok (.ifCond .ne 6, 3) := by decide +kernel
theorem dX11_worth_18 : decode cX11_worth 18 = .ok (.bipush (-2), 2) := by decide +kernel
theorem dX11_worth_20 : decode cX11_worth 20 = .ok (.ireturn, 1) := by decide +kernel
theorem dX11_worth_21 : decode cX11_worth 21 = .ok (.aload_n 0, 1) := by decide +kernel
theorem dX11_worth_22 : decode cX11_worth 22 = .ok (.iload_n 1, 1) := by decide +kernel
theorem dX11_worth_23 : decode cX11_worth 23 = .ok (.iload_n 2, 1) := by decide +kernel
theorem dX11_worth_24 : decode cX11_worth 24 = .ok (.invokevirtual 165, 3) := by decide +kernel
theorem dX11_worth_27 : decode cX11_worth 27 = .ok (.istore_n 3, 1) := by decide +kernel
theorem dX11_worth_28 : decode cX11_worth 28 = .ok (.iload_n 3, 1) := by decide +kernel
theorem dX11_worth_29 : decode cX11_worth 29 = .ok (.ifCond .ge 7, 3) := by decide +kernel
theorem dX11_worth_32 : decode cX11_worth 32 = .ok (.iconst 0, 1) := by decide +kernel
theorem dX11_worth_33 : decode cX11_worth 33 = .ok (.goto 14, 3) := by decide +kernel
theorem dX11_worth_36 : decode cX11_worth 36 = .ok (.aload_n 0, 1) := by decide +kernel
theorem dX11_worth_37 : decode cX11_worth 37 = .ok (.getfield 37, 3) := by decide +kernel
theorem dX11_worth_40 : decode cX11_worth 40 = .ok (.bipush 6, 2) := by decide +kernel
theorem dX11_worth_42 : decode cX11_worth 42 = .ok (.iload_n 1, 1) := by decide +kernel
theorem dX11_worth_43 : decode cX11_worth 43 = .ok (.imul, 1) := by decide +kernel
theorem dX11_worth_44 : decode cX11_worth 44 = .ok (.iload_n 3, 1) := by decide +kernel
theorem dX11_worth_45 : decode cX11_worth 45 = .ok (.iadd, 1) := by decide +kernel
theorem dX11_worth_46 : decode cX11_worth 46 = .ok (.iaload, 1) := by decide +kernel
theorem dX11_worth_47 : decode cX11_worth 47 = .ok (.ireturn, 1) := by decide +kernel
theorem dX11_why_0 : decode cX11_why 0 = .ok (.aload_n 0, 1) := by decide +kernel
theorem dX11_why_1 : decode cX11_why 1 = .ok (.iload_n 1, 1) := by decide +kernel
theorem dX11_why_2 : decode cX11_why 2 = .ok (.invokevirtual 123, 3) := by decide +kernel
theorem dX11_why_5 : decode cX11_why 5 = .ok (.ifCond .ne 5, 3) := by decide +kernel
theorem dX11_why_8 : decode cX11_why 8 = .ok (.iconst (-1), 1) := by decide +kernel
theorem dX11_why_9 : decode cX11_why 9 = .ok (.ireturn, 1) := by decide +kernel
theorem dX11_why_10 : decode cX11_why 10 = .ok (.aload_n 0, 1) := by decide +kernel
theorem dX11_why_11 : decode cX11_why 11 = .ok (.iload_n 2, 1) := by decide +kernel
theorem dX11_why_12 : decode cX11_why 12 = .ok (.invokevirtual 162, 3) := by decide +kernel
theorem dX11_why_15 : decode cX11_why 15 = .ok (.ifCond .eq 12, 3) := by decide +kernel
theorem dX11_why_18 : decode cX11_why 18 = .ok (.aload_n 0, 1) := by decide +kernel
theorem dX11_why_19 : decode cX11_why 19 = .ok (.iload_n 1, 1) := by decide +kernel
theorem dX11_why_20 : decode cX11_why 20 = .ok (.iload_n 2, 1) := by decide +kernel
theorem dX11_why_21 : decode cX11_why 21 = .ok (.invokevirtual 165, 3) := by decide +kernel
theorem dX11_why_24 : decode cX11_why 24 = .ok (.goto 5, 3) := by decide +kernel
theorem dX11_why_27 : decode cX11_why 27 = .ok (.bipush (-2), 2) := by decide +kernel
theorem dX11_why_29 : decode cX11_why 29 = .ok (.ireturn, 1) := by decide +kernel
theorem dX11_layWorths_0 : decode cX11_layWorths 0 = .ok (.iconst 0, 1) := by decide +kernel
theorem dX11_layWorths_1 : decode cX11_layWorths 1 = .ok (.istore_n 1, 1) := by decide +kernel
theorem dX11_layWorths_2 : decode cX11_layWorths 2 = .ok (.iload_n 1, 1) := by decide +kernel
theorem dX11_layWorths_3 : decode cX11_layWorths 3 = .ok (.aload_n 0, 1) := by decide +kernel
theorem dX11_layWorths_4 : decode cX11_layWorths 4 = .ok (.getfield 114, 3) := by decide +kernel
theorem dX11_layWorths_7 : decode cX11_layWorths 7 = .ok (.if_icmp .ge 65, 3) := by decide +kernel
theorem dX11_layWorths_10 : decode cX11_layWorths 10 = .ok (.iconst 0, 1) := by decide +kernel
theorem dX11_layWorths_11 : decode cX11_layWorths 11 = .ok (.istore_n 2, 1) := by decide +kernel
theorem dX11_layWorths_12 : decode cX11_layWorths 12 = .ok (.iload_n 2, 1) := by decide +kernel
theorem dX11_layWorths_13 : decode cX11_layWorths 13 = .ok (.iconst 1, 1) := by decide +kernel
theorem dX11_layWorths_14 : decode cX11_layWorths 14 = .ok (.aload_n 0, 1) := by decide +kernel
theorem dX11_layWorths_15 : decode cX11_layWorths 15 = .ok (.getfield 107, 3) := by decide +kernel
theorem dX11_layWorths_18 : decode cX11_layWorths 18 = .ok (.ishl, 1) := by decide +kernel
theorem dX11_layWorths_19 : decode cX11_layWorths 19 = .ok (.if_icmp .ge 47, 3) := by decide +kernel
theorem dX11_layWorths_22 : decode cX11_layWorths 22 = .ok (.aload_n 0, 1) := by decide +kernel
theorem dX11_layWorths_23 : decode cX11_layWorths 23 = .ok (.iload_n 1, 1) := by decide +kernel
theorem dX11_layWorths_24 : decode cX11_layWorths 24 = .ok (.iload_n 2, 1) := by decide +kernel
theorem dX11_layWorths_25 : decode cX11_layWorths 25 = .ok (.invokevirtual 165, 3) := by decide +kernel
theorem dX11_layWorths_28 : decode cX11_layWorths 28 = .ok (.istore_n 3, 1) := by decide +kernel
theorem dX11_layWorths_29 : decode cX11_layWorths 29 = .ok (.aload_n 0, 1) := by decide +kernel
theorem dX11_layWorths_30 : decode cX11_layWorths 30 = .ok (.getfield 46, 3) := by decide +kernel
theorem dX11_layWorths_33 : decode cX11_layWorths 33 = .ok (.sipush 256, 3) := by decide +kernel
theorem dX11_layWorths_36 : decode cX11_layWorths 36 = .ok (.iload_n 1, 1) := by decide +kernel
theorem dX11_layWorths_37 : decode cX11_layWorths 37 = .ok (.imul, 1) := by decide +kernel
theorem dX11_layWorths_38 : decode cX11_layWorths 38 = .ok (.iload_n 2, 1) := by decide +kernel
theorem dX11_layWorths_39 : decode cX11_layWorths 39 = .ok (.iadd, 1) := by decide +kernel
theorem dX11_layWorths_40 : decode cX11_layWorths 40 = .ok (.iload_n 3, 1) := by decide +kernel
theorem dX11_layWorths_41 : decode cX11_layWorths 41 = .ok (.ifCond .ge 7, 3) := by decide +kernel
theorem dX11_layWorths_44 : decode cX11_layWorths 44 = .ok (.iconst 0, 1) := by decide +kernel
theorem dX11_layWorths_45 : decode cX11_layWorths 45 = .ok (.goto 14, 3) := by decide +kernel
theorem dX11_layWorths_48 : decode cX11_layWorths 48 = .ok (.aload_n 0, 1) := by decide +kernel
theorem dX11_layWorths_49 : decode cX11_layWorths 49 = .ok (.getfield 37, 3) := by decide +kernel
theorem dX11_layWorths_52 : decode cX11_layWorths 52 = .ok (.bipush 6, 2) := by decide +kernel
theorem dX11_layWorths_54 : decode cX11_layWorths 54 = .ok (.iload_n 1, 1) := by decide +kernel
theorem dX11_layWorths_55 : decode cX11_layWorths 55 = .ok (.imul, 1) := by decide +kernel
theorem dX11_layWorths_56 : decode cX11_layWorths 56 = .ok (.iload_n 3, 1) := by decide +kernel
theorem dX11_layWorths_57 : decode cX11_layWorths 57 = .ok (.iadd, 1) := by decide +kernel
theorem dX11_layWorths_58 : decode cX11_layWorths 58 = .ok (.iaload, 1) := by decide +kernel
theorem dX11_layWorths_59 : decode cX11_layWorths 59 = .ok (.iastore, 1) := by decide +kernel
theorem dX11_layWorths_60 : decode cX11_layWorths 60 = .ok (.iinc 2 1, 3) := by decide +kernel
theorem dX11_layWorths_63 : decode cX11_layWorths 63 = .ok (.goto (-51), 3) := by decide +kernel
theorem dX11_layWorths_66 : decode cX11_layWorths 66 = .ok (.iinc 1 1, 3) := by decide +kernel
theorem dX11_layWorths_69 : decode cX11_layWorths 69 = .ok (.goto (-67), 3) := by decide +kernel
theorem dX11_layWorths_72 : decode cX11_layWorths 72 = .ok (.return_, 1) := by decide +kernel
theorem dX11_top_0 : decode cX11_top 0 = .ok (.iload_n 1, 1) := by decide +kernel
theorem dX11_top_1 : decode cX11_top 1 = .ok (.i2l, 1) := by decide +kernel
theorem dX11_top_2 : decode cX11_top 2 = .ok (.lconst 1, 1) := by decide +kernel
theorem dX11_top_3 : decode cX11_top 3 = .ok (.ldc2_w 121, 3) := by decide +kernel
theorem dX11_top_6 : decode cX11_top 6 = .ok (.invokestatic 110, 3) := by decide +kernel
theorem dX11_top_9 : decode cX11_top 9 = .ok (.ifCond .ne 6, 3) := by decide +kernel
theorem dX11_top_12 : decode cX11_top 12 = .ok (.bipush (-2), 2) := by decide +kernel
theorem dX11_top_14 : decode cX11_top 14 = .ok (.ireturn, 1) := by decide +kernel
theorem dX11_top_15 : decode cX11_top 15 = .ok (.aload_n 0, 1) := by decide +kernel
theorem dX11_top_16 : decode cX11_top 16 = .ok (.getfield 103, 3) := by decide +kernel
theorem dX11_top_19 : decode cX11_top 19 = .ok (.istore_n 2, 1) := by decide +kernel
theorem dX11_top_20 : decode cX11_top 20 = .ok (.aload_n 0, 1) := by decide +kernel
theorem dX11_top_21 : decode cX11_top 21 = .ok (.iload_n 1, 1) := by decide +kernel
theorem dX11_top_22 : decode cX11_top 22 = .ok (.putfield 103, 3) := by decide +kernel
theorem dX11_top_25 : decode cX11_top 25 = .ok (.iload_n 2, 1) := by decide +kernel
theorem dX11_top_26 : decode cX11_top 26 = .ok (.ireturn, 1) := by decide +kernel
theorem dX11_swap_0 : decode cX11_swap 0 = .ok (.aload_n 0, 1) := by decide +kernel
theorem dX11_swap_1 : decode cX11_swap 1 = .ok (.iload_n 1, 1) := by decide +kernel
theorem dX11_swap_2 : decode cX11_swap 2 = .ok (.invokevirtual 169, 3) := by decide +kernel
theorem dX11_swap_5 : decode cX11_swap 5 = .ok (.ifCond .eq 11, 3) := by decide +kernel
theorem dX11_swap_8 : decode cX11_swap 8 = .ok (.aload_n 0, 1) := by decide +kernel
theorem dX11_swap_9 : decode cX11_swap 9 = .ok (.iload_n 2, 1) := by decide +kernel
theorem dX11_swap_10 : decode cX11_swap 10 = .ok (.invokevirtual 169, 3) := by decide +kernel
theorem dX11_swap_13 : decode cX11_swap 13 = .ok (.ifCond .ne 5, 3) := by decide +kernel
theorem dX11_swap_16 : decode cX11_swap 16 = .ok (.iconst (-1), 1) := by decide +kernel
theorem dX11_swap_17 : decode cX11_swap 17 = .ok (.ireturn, 1) := by decide +kernel
theorem dX11_swap_18 : decode cX11_swap 18 = .ok (.iconst 0, 1) := by decide +kernel
theorem dX11_swap_19 : decode cX11_swap 19 = .ok (.istore_n 3, 1) := by decide +kernel
theorem dX11_swap_20 : decode cX11_swap 20 = .ok (.iload_n 3, 1) := by decide +kernel
theorem dX11_swap_21 : decode cX11_swap 21 = .ok (.aload_n 0, 1) := by decide +kernel
theorem dX11_swap_22 : decode cX11_swap 22 = .ok (.getfield 107, 3) := by decide +kernel
theorem dX11_swap_25 : decode cX11_swap 25 = .ok (.if_icmp .ge 45, 3) := by decide +kernel
theorem dX11_swap_28 : decode cX11_swap 28 = .ok (.aload_n 0, 1) := by decide +kernel
theorem dX11_swap_29 : decode cX11_swap 29 = .ok (.getfield 19, 3) := by decide +kernel
theorem dX11_swap_32 : decode cX11_swap 32 = .ok (.iload_n 3, 1) := by decide +kernel
theorem dX11_swap_33 : decode cX11_swap 33 = .ok (.iaload, 1) := by decide +kernel
theorem dX11_swap_34 : decode cX11_swap 34 = .ok (.istore 4, 2) := by decide +kernel
theorem dX11_swap_36 : decode cX11_swap 36 = .ok (.aload_n 0, 1) := by decide +kernel
theorem dX11_swap_37 : decode cX11_swap 37 = .ok (.getfield 19, 3) := by decide +kernel
theorem dX11_swap_40 : decode cX11_swap 40 = .ok (.iload_n 3, 1) := by decide +kernel
theorem dX11_swap_41 : decode cX11_swap 41 = .ok (.iload 4, 2) := by decide +kernel
theorem dX11_swap_43 : decode cX11_swap 43 = .ok (.iload_n 1, 1) := by decide +kernel
theorem dX11_swap_44 : decode cX11_swap 44 = .ok (.if_icmp .ne 7, 3) := by decide +kernel
theorem dX11_swap_47 : decode cX11_swap 47 = .ok (.iload_n 2, 1) := by decide +kernel
theorem dX11_swap_48 : decode cX11_swap 48 = .ok (.goto 15, 3) := by decide +kernel
theorem dX11_swap_51 : decode cX11_swap 51 = .ok (.iload 4, 2) := by decide +kernel
theorem dX11_swap_53 : decode cX11_swap 53 = .ok (.iload_n 2, 1) := by decide +kernel
theorem dX11_swap_54 : decode cX11_swap 54 = .ok (.if_icmp .ne 7, 3) := by decide +kernel
theorem dX11_swap_57 : decode cX11_swap 57 = .ok (.iload_n 1, 1) := by decide +kernel
theorem dX11_swap_58 : decode cX11_swap 58 = .ok (.goto 5, 3) := by decide +kernel
theorem dX11_swap_61 : decode cX11_swap 61 = .ok (.iload 4, 2) := by decide +kernel
theorem dX11_swap_63 : decode cX11_swap 63 = .ok (.iastore, 1) := by decide +kernel
theorem dX11_swap_64 : decode cX11_swap 64 = .ok (.iinc 3 1, 3) := by decide +kernel
theorem dX11_swap_67 : decode cX11_swap 67 = .ok (.goto (-47), 3) := by decide +kernel
theorem dX11_swap_70 : decode cX11_swap 70 = .ok (.iconst 1, 1) := by decide +kernel
theorem dX11_swap_71 : decode cX11_swap 71 = .ok (.ireturn, 1) := by decide +kernel
theorem dX11_order_0 : decode cX11_order 0 = .ok (.iload_n 1, 1) := by decide +kernel
theorem dX11_order_1 : decode cX11_order 1 = .ok (.i2l, 1) := by decide +kernel
theorem dX11_order_2 : decode cX11_order 2 = .ok (.lconst 0, 1) := by decide +kernel
theorem dX11_order_3 : decode cX11_order 3 = .ok (.aload_n 0, 1) := by decide +kernel
theorem dX11_order_4 : decode cX11_order 4 = .ok (.getfield 107, 3) := by decide +kernel
theorem dX11_order_7 : decode cX11_order 7 = .ok (.iconst 1, 1) := by decide +kernel
theorem dX11_order_8 : decode cX11_order 8 = .ok (.isub, 1) := by decide +kernel
theorem dX11_order_9 : decode cX11_order 9 = .ok (.i2l, 1) := by decide +kernel
theorem dX11_order_10 : decode cX11_order 10 = .ok (.invokestatic 110, 3) := by decide +kernel
theorem dX11_order_13 : decode cX11_order 13 = .ok (.ifCond .eq 12, 3) := by decide +kernel
theorem dX11_order_16 : decode cX11_order 16 = .ok (.aload_n 0, 1) := by decide +kernel
theorem dX11_order_17 : decode cX11_order 17 = .ok (.getfield 19, 3) := by decide +kernel
theorem dX11_order_20 : decode cX11_order 20 = .ok (.iload_n 1, 1) := by decide +kernel
theorem dX11_order_21 : decode cX11_order 21 = .ok (.iaload, 1) := by decide +kernel
theorem dX11_order_22 : decode cX11_order 22 = .ok (.goto 5, 3) := by decide +kernel
theorem dX11_order_25 : decode cX11_order 25 = .ok (.bipush (-6), 2) := by decide +kernel
theorem dX11_order_27 : decode cX11_order 27 = .ok (.ireturn, 1) := by decide +kernel
theorem dX11_nextPlace_0 : decode cX11_nextPlace 0 = .ok (.iload_n 2, 1) := by decide +kernel
theorem dX11_nextPlace_1 : decode cX11_nextPlace 1 = .ok (.istore_n 3, 1) := by decide +kernel
theorem dX11_nextPlace_2 : decode cX11_nextPlace 2 = .ok (.iload_n 3, 1) := by decide +kernel
theorem dX11_nextPlace_3 : decode cX11_nextPlace 3 = .ok (.aload_n 0, 1) := by decide +kernel
theorem dX11_nextPlace_4 : decode cX11_nextPlace 4 = .ok (.getfield 107, 3) := by decide +kernel
theorem dX11_nextPlace_7 : decode cX11_nextPlace 7 = .ok (.if_icmp .ge 24, 3) := by decide +kernel
theorem dX11_nextPlace_10 : decode cX11_nextPlace 10 = .ok (.aload_n 0, 1) := by decide +kernel
theorem dX11_nextPlace_11 : decode cX11_nextPlace 11 = .ok (.getfield 13, 3) := by decide +kernel
theorem dX11_nextPlace_14 : decode cX11_nextPlace 14 = .ok (.aload_n 0, 1) := by decide +kernel
theorem dX11_nextPlace_15 : decode cX11_nextPlace 15 = .ok (.getfield 19, 3) := by decide +kernel
theorem dX11_nextPlace_18 : decode cX11_nextPlace 18 = .ok (.iload_n 3, 1) := by decide +kernel
theorem dX11_nextPlace_19 : decode cX11_nextPlace 19 = .ok (.iaload, 1) := by decide +kernel
theorem dX11_nextPlace_20 : decode cX11_nextPlace 20 = .ok (.iaload, 1) := by decide +kernel
theorem dX11_nextPlace_21 : decode cX11_nextPlace 21 = .ok (.iload_n 1, 1) := by decide +kernel
theorem dX11_nextPlace_22 : decode cX11_nextPlace 22 = .ok (.if_icmp .eq 9, 3) := by decide +kernel
theorem dX11_nextPlace_25 : decode cX11_nextPlace 25 = .ok (.iinc 3 1, 3) := by decide +kernel
theorem dX11_nextPlace_28 : decode cX11_nextPlace 28 = .ok (.goto (-26), 3) := by decide +kernel
theorem dX11_nextPlace_31 : decode cX11_nextPlace 31 = .ok (.iload_n 3, 1) := by decide +kernel
theorem dX11_nextPlace_32 : decode cX11_nextPlace 32 = .ok (.ireturn, 1) := by decide +kernel
theorem dX11_presser_0 : decode cX11_presser 0 = .ok (.bipush (-6), 2) := by decide +kernel
theorem dX11_presser_2 : decode cX11_presser 2 = .ok (.istore_n 3, 1) := by decide +kernel
theorem dX11_presser_3 : decode cX11_presser 3 = .ok (.iconst 0, 1) := by decide +kernel
theorem dX11_presser_4 : decode cX11_presser 4 = .ok (.istore 4, 2) := by decide +kernel
theorem dX11_presser_6 : decode cX11_presser 6 = .ok (.iload 4, 2) := by decide +kernel
theorem dX11_presser_8 : decode cX11_presser 8 = .ok (.aload_n 0, 1) := by decide +kernel
theorem dX11_presser_9 : decode cX11_presser 9 = .ok (.getfield 114, 3) := by decide +kernel
theorem dX11_presser_12 : decode cX11_presser 12 = .ok (.if_icmp .ge 144, 3) := by decide +kernel
theorem dX11_presser_15 : decode cX11_presser 15 = .ok (.aload_n 0, 1) := by decide +kernel
theorem dX11_presser_16 : decode cX11_presser 16 = .ok (.getfield 46, 3) := by decide +kernel
theorem dX11_presser_19 : decode cX11_presser 19 = .ok (.sipush 256, 3) := by decide +kernel
theorem dX11_presser_22 : decode cX11_presser 22 = .ok (.iload 4, 2) := by decide +kernel
theorem dX11_presser_24 : decode cX11_presser 24 = .ok (.imul, 1) := by decide +kernel
theorem dX11_presser_25 : decode cX11_presser 25 = .ok (.aload_n 0, 1) := by decide +kernel
theorem dX11_presser_26 : decode cX11_presser 26 = .ok (.getfield 58, 3) := by decide +kernel
theorem dX11_presser_29 : decode cX11_presser 29 = .ok (.iload 4, 2) := by decide +kernel
theorem dX11_presser_31 : decode cX11_presser 31 = .ok (.iaload, 1) := by decide +kernel
theorem dX11_presser_32 : decode cX11_presser 32 = .ok (.iconst 1, 1) := by decide +kernel
theorem dX11_presser_33 : decode cX11_presser 33 = .ok (.iload_n 1, 1) := by decide +kernel
theorem dX11_presser_34 : decode cX11_presser 34 = .ok (.ishl, 1) := by decide +kernel
theorem dX11_presser_35 : decode cX11_presser 35 = .ok (.ior, 1) := by decide +kernel
theorem dX11_presser_36 : decode cX11_presser 36 = .ok (.iadd, 1) := by decide +kernel
theorem dX11_presser_37 : decode cX11_presser 37 = .ok (.iaload, 1) := by decide +kernel
theorem dX11_presser_38 : decode cX11_presser 38 = .ok (.aload_n 0, 1) := by decide +kernel
theorem dX11_presser_39 : decode cX11_presser 39 = .ok (.getfield 46, 3) := by decide +kernel
theorem dX11_presser_42 : decode cX11_presser 42 = .ok (.sipush 256, 3) := by decide +kernel
theorem dX11_presser_45 : decode cX11_presser 45 = .ok (.iload 4, 2) := by decide +kernel
theorem dX11_presser_47 : decode cX11_presser 47 = .ok (.imul, 1) := by decide +kernel
theorem dX11_presser_48 : decode cX11_presser 48 = .ok (.aload_n 0, 1) := by decide +kernel
theorem dX11_presser_49 : decode cX11_presser 49 = .ok (.getfield 58, 3) := by decide +kernel
theorem dX11_presser_52 : decode cX11_presser 52 = .ok (.iload 4, 2) := by decide +kernel
theorem dX11_presser_54 : decode cX11_presser 54 = .ok (.iaload, 1) := by decide +kernel
theorem dX11_presser_55 : decode cX11_presser 55 = .ok (.iadd, 1) := by decide +kernel
theorem dX11_presser_56 : decode cX11_presser 56 = .ok (.iaload, 1) := by decide +kernel
theorem dX11_presser_57 : decode cX11_presser 57 = .ok (.isub, 1) := by decide +kernel
theorem dX11_presser_58 : decode cX11_presser 58 = .ok (.istore 5, 2) := by decide +kernel
theorem dX11_presser_60 : decode cX11_presser 60 = .ok (.iload 5, 2) := by decide +kernel
theorem dX11_presser_62 : decode cX11_presser 62 = .ok (.bipush 100, 2) := by decide +kernel
theorem dX11_presser_64 : decode cX11_presser 64 = .ok (.aload_n 0, 1) := by decide +kernel
theorem dX11_presser_65 : decode cX11_presser 65 = .ok (.getfield 25, 3) := by decide +kernel
theorem dX11_presser_68 : decode cX11_presser 68 = .ok (.iload 4, 2) := by decide +kernel
theorem dX11_presser_70 : decode cX11_presser 70 = .ok (.iaload, 1) := by decide +kernel
theorem dX11_presser_71 : decode cX11_presser 71 = .ok (.isub, 1) := by decide +kernel
theorem dX11_presser_72 : decode cX11_presser 72 = .ok (.imul, 1) := by decide +kernel
theorem dX11_presser_73 : decode cX11_presser 73 = .ok (.bipush 100, 2) := by decide +kernel
theorem dX11_presser_75 : decode cX11_presser 75 = .ok (.idiv, 1) := by decide +kernel
theorem dX11_presser_76 : decode cX11_presser 76 = .ok (.istore 6, 2) := by decide +kernel
theorem dX11_presser_78 : decode cX11_presser 78 = .ok (.iload_n 2, 1) := by decide +kernel
theorem dX11_presser_79 : decode cX11_presser 79 = .ok (.aload_n 0, 1) := by decide +kernel
theorem dX11_presser_80 : decode cX11_presser 80 = .ok (.getfield 16, 3) := by decide +kernel
theorem dX11_presser_83 : decode cX11_presser 83 = .ok (.iload_n 1, 1) := by decide +kernel
theorem dX11_presser_84 : decode cX11_presser 84 = .ok (.iaload, 1) := by decide +kernel
theorem dX11_presser_85 : decode cX11_presser 85 = .ok (.if_icmp .lt 30, 3) := by decide +kernel
theorem dX11_presser_88 : decode cX11_presser 88 = .ok (.iload 6, 2) := by decide +kernel
theorem dX11_presser_90 : decode cX11_presser 90 = .ok (.iconst 1, 1) := by decide +kernel
theorem dX11_presser_91 : decode cX11_presser 91 = .ok (.if_icmp .lt 24, 3) := by decide +kernel
theorem dX11_presser_94 : decode cX11_presser 94 = .ok (.iload 6, 2) := by decide +kernel
theorem dX11_presser_96 : decode cX11_presser 96 = .ok (.iload_n 2, 1) := by decide +kernel
theorem dX11_presser_97 : decode cX11_presser 97 = .ok (.if_icmp .lt 18, 3) := by decide +kernel
theorem dX11_presser_100 : decode cX11_presser 100 = .ok (.aload_n 0, 1) := by decide +kernel
theorem dX11_presser_101 : decode cX11_presser 101 = .ok (.getfield 61, 3) := by decide +kernel
theorem dX11_presser_104 : decode cX11_presser 104 = .ok (.iload 4, 2) := by decide +kernel
theorem dX11_presser_106 : decode cX11_presser 106 = .ok (.iaload, 1) := by decide +kernel
theorem dX11_presser_107 : decode cX11_presser 107 = .ok (.iload_n 2, 1) := by decide +kernel
theorem dX11_presser_108 : decode cX11_presser 108 = .ok (.if_icmp .lt 7, 3) := by decide +kernel
theorem dX11_presser_111 : decode cX11_presser 111 = .ok (.iconst 1, 1) := by decide +kernel
theorem dX11_presser_112 : decode cX11_presser 112 = .ok (.goto 4, 3) := by decide +kernel
theorem dX11_presser_115 : decode cX11_presser 115 = .ok (.iconst 0, 1) := by decide +kernel
theorem dX11_presser_116 : decode cX11_presser 116 = .ok (.istore 7, 2) := by decide +kernel
theorem dX11_presser_118 : decode cX11_presser 118 = .ok (.iload 7, 2) := by decide +kernel
theorem dX11_presser_120 : decode cX11_presser 120 = .ok (.ifCond .eq 28, 3) := by decide +kernel
theorem dX11_presser_123 : decode cX11_presser 123 = .ok (.iload_n 3, 1) := by decide +kernel
theorem dX11_presser_124 : decode cX11_presser 124 = .ok (.ifCond .lt 19, 3) := by decide +kernel
theorem dX11_presser_127 : decode cX11_presser 127 = .ok (.aload_n 0, 1) := by decide +kernel
theorem dX11_presser_128 : decode cX11_presser 128 = .ok (.getfield 28, 3) := by decide +kernel
theorem dX11_presser_131 : decode cX11_presser 131 = .ok (.iload 4, 2) := by decide +kernel
theorem dX11_presser_133 : decode cX11_presser 133 = .ok (.iaload, 1) := by decide +kernel
theorem dX11_presser_134 : decode cX11_presser 134 = .ok (.aload_n 0, 1) := by decide +kernel
theorem dX11_presser_135 : decode cX11_presser 135 = .ok (.getfield 28, 3) := by decide +kernel
theorem dX11_presser_138 : decode cX11_presser 138 = .ok (.iload_n 3, 1) := by decide +kernel
theorem dX11_presser_139 : decode cX11_presser 139 = .ok (.iaload, 1) := by decide +kernel
theorem dX11_presser_140 : decode cX11_presser 140 = .ok (.if_icmp .ge 8, 3) := by decide +kernel
theorem dX11_presser_143 : decode cX11_presser 143 = .ok (.iload 4, 2) := by decide +kernel
theorem dX11_presser_145 : decode cX11_presser 145 = .ok (.goto 4, 3) := by decide +kernel
theorem dX11_presser_148 : decode cX11_presser 148 = .ok (.iload_n 3, 1) := by decide +kernel
theorem dX11_presser_149 : decode cX11_presser 149 = .ok (.istore_n 3, 1) := by decide +kernel
theorem dX11_presser_150 : decode cX11_presser 150 = .ok (.iinc 4 1, 3) := by decide +kernel
theorem dX11_presser_153 : decode cX11_presser 153 = .ok (.goto (-147), 3) := by decide +kernel
theorem dX11_presser_156 : decode cX11_presser 156 = .ok (.iload_n 3, 1) := by decide +kernel
theorem dX11_presser_157 : decode cX11_presser 157 = .ok (.ireturn, 1) := by decide +kernel
theorem dX11_runDay_0 : decode cX11_runDay 0 = .ok (.iconst 0, 1) := by decide +kernel
theorem dX11_runDay_1 : decode cX11_runDay 1 = .ok (.istore_n 2, 1) := by decide +kernel
theorem dX11_runDay_2 : decode cX11_runDay 2 = .ok (.iload_n 2, 1) := by decide +kernel
theorem dX11_runDay_3 : decode cX11_runDay 3 = .ok (.aload_n 0, 1) := by decide +kernel
theorem dX11_runDay_4 : decode cX11_runDay 4 = .ok (.getfield 114, 3) := by decide +kernel
theorem dX11_runDay_7 : decode cX11_runDay 7 = .ok (.if_icmp .ge 28, 3) := by decide +kernel
theorem dX11_runDay_10 : decode cX11_runDay 10 = .ok (.aload_n 0, 1) := by decide +kernel
theorem dX11_runDay_11 : decode cX11_runDay 11 = .ok (.getfield 58, 3) := by decide +kernel
theorem dX11_runDay_14 : decode cX11_runDay 14 = .ok (.iload_n 2, 1) := by decide +kernel
theorem dX11_runDay_15 : decode cX11_runDay 15 = .ok (.iconst 0, 1) := by decide +kernel
theorem dX11_runDay_16 : decode cX11_runDay 16 = .ok (.iastore, 1) := by decide +kernel
theorem dX11_runDay_17 : decode cX11_runDay 17 = .ok (.aload_n 0, 1) := by decide +kernel
theorem dX11_runDay_18 : decode cX11_runDay 18 = .ok (.getfield 61, 3) := by decide +kernel
theorem dX11_runDay_21 : decode cX11_runDay 21 = .ok (.iload_n 2, 1) := by decide +kernel
theorem dX11_runDay_22 : decode cX11_runDay 22 = .ok (.aload_n 0, 1) := by decide +kernel
theorem dX11_runDay_23 : decode cX11_runDay 23 = .ok (.getfield 22, 3) := by decide +kernel
theorem dX11_runDay_26 : decode cX11_runDay 26 = .ok (.iload_n 2, 1) := by decide +kernel
theorem dX11_runDay_27 : decode cX11_runDay 27 = .ok (.iaload, 1) := by decide +kernel
theorem dX11_runDay_28 : decode cX11_runDay 28 = .ok (.iastore, 1) := by decide +kernel
theorem dX11_runDay_29 : decode cX11_runDay 29 = .ok (.iinc 2 1, 3) := by decide +kernel
theorem dX11_runDay_32 : decode cX11_runDay 32 = .ok (.goto (-30), 3) := by decide +kernel
theorem dX11_runDay_35 : decode cX11_runDay 35 = .ok (.iconst 0, 1) := by decide +kernel
theorem dX11_runDay_36 : decode cX11_runDay 36 = .ok (.istore_n 2, 1) := by decide +kernel
theorem dX11_runDay_37 : decode cX11_runDay 37 = .ok (.iload_n 2, 1) := by decide +kernel
theorem dX11_runDay_38 : decode cX11_runDay 38 = .ok (.iconst 3, 1) := by decide +kernel
theorem dX11_runDay_39 : decode cX11_runDay 39 = .ok (.if_icmp .ge 28, 3) := by decide +kernel
theorem dX11_runDay_42 : decode cX11_runDay 42 = .ok (.aload_n 0, 1) := by decide +kernel
theorem dX11_runDay_43 : decode cX11_runDay 43 = .ok (.getfield 64, 3) := by decide +kernel
theorem dX11_runDay_46 : decode cX11_runDay 46 = .ok (.iload_n 2, 1) := by decide +kernel
theorem dX11_runDay_47 : decode cX11_runDay 47 = .ok (.aload_n 0, 1) := by decide +kernel
theorem dX11_runDay_48 : decode cX11_runDay 48 = .ok (.iload_n 2, 1) := by decide +kernel
theorem dX11_runDay_49 : decode cX11_runDay 49 = .ok (.iconst 0, 1) := by decide +kernel
theorem dX11_runDay_50 : decode cX11_runDay 50 = .ok (.invokevirtual 172, 3) := by decide +kernel
theorem dX11_runDay_53 : decode cX11_runDay 53 = .ok (.iastore, 1) := by decide +kernel
theorem dX11_runDay_54 : decode cX11_runDay 54 = .ok (.aload_n 0, 1) := by decide +kernel
theorem dX11_runDay_55 : decode cX11_runDay 55 = .ok (.getfield 67, 3) := by decide +kernel
theorem dX11_runDay_58 : decode cX11_runDay 58 = .ok (.iload_n 2, 1) := by decide +kernel
theorem dX11_runDay_59 : decode cX11_runDay 59 = .ok (.iconst 0, 1) := by decide +kernel
theorem dX11_runDay_60 : decode cX11_runDay 60 = .ok (.iastore, 1) := by decide +kernel
theorem dX11_runDay_61 : decode cX11_runDay 61 = .ok (.iinc 2 1, 3) := by decide +kernel
theorem dX11_runDay_64 : decode cX11_runDay 64 = .ok (.goto (-27), 3) := by decide +kernel
theorem dX11_runDay_67 : decode cX11_runDay 67 = .ok (.aload_n 0, 1) := by decide +kernel
theorem dX11_runDay_68 : decode cX11_runDay 68 = .ok (.getfield 107, 3) := by decide +kernel
theorem dX11_runDay_71 : decode cX11_runDay 71 = .ok (.istore_n 2, 1) := by decide +kernel
theorem dX11_runDay_72 : decode cX11_runDay 72 = .ok (.iconst 0, 1) := by decide +kernel
theorem dX11_runDay_73 : decode cX11_runDay 73 = .ok (.istore_n 3, 1) := by decide +kernel
theorem dX11_runDay_74 : decode cX11_runDay 74 = .ok (.iload_n 2, 1) := by decide +kernel
theorem dX11_runDay_75 : decode cX11_runDay 75 = .ok (.ifCond .le 149, 3) := by decide +kernel
theorem dX11_runDay_78 : decode cX11_runDay 78 = .ok (.iconst 0, 1) := by decide +kernel
theorem dX11_runDay_79 : decode cX11_runDay 79 = .ok (.istore 4, 2) := by decide +kernel
theorem dX11_runDay_81 : decode cX11_runDay 81 = .ok (.iload 4, 2) := by decide +kernel
theorem dX11_runDay_83 : decode cX11_runDay 83 = .ok (.iconst 3, 1) := by decide +kernel
theorem dX11_runDay_84 : decode cX11_runDay 84 = .ok (.if_icmp .ge 134, 3) := by decide +kernel
theorem dX11_runDay_87 : decode cX11_runDay 87 = .ok (.aload_n 0, 1) := by decide +kernel
theorem dX11_runDay_88 : decode cX11_runDay 88 = .ok (.getfield 64, 3) := by decide +kernel
theorem dX11_runDay_91 : decode cX11_runDay 91 = .ok (.iload 4, 2) := by decide +kernel
theorem dX11_runDay_93 : decode cX11_runDay 93 = .ok (.iaload, 1) := by decide +kernel
theorem dX11_runDay_94 : decode cX11_runDay 94 = .ok (.aload_n 0, 1) := by decide +kernel
theorem dX11_runDay_95 : decode cX11_runDay 95 = .ok (.getfield 107, 3) := by decide +kernel
theorem dX11_runDay_98 : decode cX11_runDay 98 = .ok (.if_icmp .ge 114, 3) := by decide +kernel
theorem dX11_runDay_101 : decode cX11_runDay 101 = .ok (.aload_n 0, 1) := by decide +kernel
theorem dX11_runDay_102 : decode cX11_runDay 102 = .ok (.getfield 67, 3) := by decide +kernel
theorem dX11_runDay_105 : decode cX11_runDay 105 = .ok (.iload 4, 2) := by decide +kernel
theorem dX11_runDay_107 : decode cX11_runDay 107 = .ok (.iaload, 1) := by decide +kernel
theorem dX11_runDay_108 : decode cX11_runDay 108 = .ok (.iload_n 3, 1) := by decide +kernel
theorem dX11_runDay_109 : decode cX11_runDay 109 = .ok (.if_icmp .gt 103, 3) := by decide +kernel
theorem dX11_runDay_112 : decode cX11_runDay 112 = .ok (.aload_n 0, 1) := by decide +kernel
theorem dX11_runDay_113 : decode cX11_runDay 113 = .ok (.getfield 19, 3) := by decide +kernel
theorem dX11_runDay_116 : decode cX11_runDay 116 = .ok (.aload_n 0, 1) := by decide +kernel
theorem dX11_runDay_117 : decode cX11_runDay 117 = .ok (.getfield 64, 3) := by decide +kernel
theorem dX11_runDay_120 : decode cX11_runDay 120 = .ok (.iload 4, 2) := by decide +kernel
theorem dX11_runDay_122 : decode cX11_runDay 122 = .ok (.iaload, 1) := by decide +kernel
theorem dX11_runDay_123 : decode cX11_runDay 123 = .ok (.iaload, 1) := by decide +kernel
theorem dX11_runDay_124 : decode cX11_runDay 124 = .ok (.istore 5, 2) := by decide +kernel
theorem dX11_runDay_126 : decode cX11_runDay 126 = .ok (.iload_n 1, 1) := by decide +kernel
theorem dX11_runDay_127 : decode cX11_runDay 127 = .ok (.iload_n 3, 1) := by decide +kernel
theorem dX11_runDay_128 : decode cX11_runDay 128 = .ok (.aload_n 0, 1) := by decide +kernel
theorem dX11_runDay_129 : decode cX11_runDay 129 = .ok (.getfield 67, 3) := by decide +kernel
theorem dX11_runDay_132 : decode cX11_runDay 132 = .ok (.iload 4, 2) := by decide +kernel
theorem dX11_runDay_134 : decode cX11_runDay 134 = .ok (.iaload, 1) := by decide +kernel
theorem dX11_runDay_135 : decode cX11_runDay 135 = .ok (.isub, 1) := by decide +kernel
theorem dX11_runDay_136 : decode cX11_runDay 136 = .ok (.isub, 1) := by decide +kernel
theorem dX11_runDay_137 : decode cX11_runDay 137 = .ok (.istore 6, 2) := by decide +kernel
theorem dX11_runDay_139 : decode cX11_runDay 139 = .ok (.aload_n 0, 1) := by decide +kernel
theorem dX11_runDay_140 : decode cX11_runDay 140 = .ok (.iload 5, 2) := by decide +kernel
theorem dX11_runDay_142 : decode cX11_runDay 142 = .ok (.iload 6, 2) := by decide +kernel
theorem dX11_runDay_144 : decode cX11_runDay 144 = .ok (.invokevirtual 175, 3) := by decide +kernel
theorem dX11_runDay_147 : decode cX11_runDay 147 = .ok (.istore 7, 2) := by decide +kernel
theorem dX11_runDay_149 : decode cX11_runDay 149 = .ok (.iload 7, 2) := by decide +kernel
theorem dX11_runDay_151 : decode cX11_runDay 151 = .ok (.ifCond .ge 15, 3) := by decide +kernel
theorem dX11_runDay_154 : decode cX11_runDay 154 = .ok (.iload 6, 2) := by decide +kernel
theorem dX11_runDay_156 : decode cX11_runDay 156 = .ok (.aload_n 0, 1) := by decide +kernel
theorem dX11_runDay_157 : decode cX11_runDay 157 = .ok (.getfield 16, 3) := by decide +kernel
theorem dX11_runDay_160 : decode cX11_runDay 160 = .ok (.iload 5, 2) := by decide +kernel
theorem dX11_runDay_162 : decode cX11_runDay 162 = .ok (.iaload, 1) := by decide +kernel
theorem dX11_runDay_163 : decode cX11_runDay 163 = .ok (.if_icmp .gt 49, 3) := by decide +kernel
theorem dX11_runDay_166 : decode cX11_runDay 166 = .ok (.aload_n 0, 1) := by decide +kernel
theorem dX11_runDay_167 : decode cX11_runDay 167 = .ok (.iload 5, 2) := by decide +kernel
theorem dX11_runDay_169 : decode cX11_runDay 169 = .ok (.iload 7, 2) := by decide +kernel
theorem dX11_runDay_171 : decode cX11_runDay 171 = .ok (.iload 6, 2) := by decide +kernel
theorem dX11_runDay_173 : decode cX11_runDay 173 = .ok (.iload_n 3, 1) := by decide +kernel
theorem dX11_runDay_174 : decode cX11_runDay 174 = .ok (.invokevirtual 178, 3) := by decide +kernel
theorem dX11_runDay_177 : decode cX11_runDay 177 = .ok (.aload_n 0, 1) := by decide +kernel
theorem dX11_runDay_178 : decode cX11_runDay 178 = .ok (.getfield 64, 3) := by decide +kernel
theorem dX11_runDay_181 : decode cX11_runDay 181 = .ok (.iload 4, 2) := by decide +kernel
theorem dX11_runDay_183 : decode cX11_runDay 183 = .ok (.aload_n 0, 1) := by decide +kernel
theorem dX11_runDay_184 : decode cX11_runDay 184 = .ok (.iload 4, 2) := by decide +kernel
theorem dX11_runDay_186 : decode cX11_runDay 186 = .ok (.aload_n 0, 1) := by decide +kernel
theorem dX11_runDay_187 : decode cX11_runDay 187 = .ok (.getfield 64, 3) := by decide +kernel
theorem dX11_runDay_190 : decode cX11_runDay 190 = .ok (.iload 4, 2) := by decide +kernel
theorem dX11_runDay_192 : decode cX11_runDay 192 = .ok (.iaload, 1) := by decide +kernel
theorem dX11_runDay_193 : decode cX11_runDay 193 = .ok (.iconst 1, 1) := by decide +kernel
theorem dX11_runDay_194 : decode cX11_runDay 194 = .ok (.iadd, 1) := by decide +kernel
theorem dX11_runDay_195 : decode cX11_runDay 195 = .ok (.invokevirtual 172, 3) := by decide +kernel
theorem dX11_runDay_198 : decode cX11_runDay 198 = .ok (.iastore, 1) := by decide +kernel
theorem dX11_runDay_199 : decode cX11_runDay 199 = .ok (.aload_n 0, 1) := by decide +kernel
theorem dX11_runDay_200 : decode cX11_runDay 200 = .ok (.getfield 67, 3) := by decide +kernel
theorem dX11_runDay_203 : decode cX11_runDay 203 = .ok (.iload 4, 2) := by decide +kernel
theorem dX11_runDay_205 : decode cX11_runDay 205 = .ok (.iload_n 3, 1) := by decide +kernel
theorem dX11_runDay_206 : decode cX11_runDay 206 = .ok (.iconst 1, 1) := by decide +kernel
theorem dX11_runDay_207 : decode cX11_runDay 207 = .ok (.iadd, 1) := by decide +kernel
theorem dX11_runDay_208 : decode cX11_runDay 208 = .ok (.iastore, 1) := by decide +kernel
theorem dX11_runDay_209 : decode cX11_runDay 209 = .ok (.iinc 2 (-1), 3) := by decide +kernel
theorem dX11_runDay_212 : decode cX11_runDay 212 = .ok (.iinc 4 1, 3) := by decide +kernel
theorem dX11_runDay_215 : decode cX11_runDay 215 = .ok (.goto (-134), 3) := by decide +kernel
theorem dX11_runDay_218 : decode cX11_runDay 218 = .ok (.iinc 3 1, 3) := by decide +kernel
theorem dX11_runDay_221 : decode cX11_runDay 221 = .ok (.goto (-147), 3) := by decide +kernel
theorem dX11_runDay_224 : decode cX11_runDay 224 = .ok (.return_, 1) := by decide +kernel
theorem dX11_sell_0 : decode cX11_sell 0 = .ok (.aload_n 0, 1) := by decide +kernel
theorem dX11_sell_1 : decode cX11_sell 1 = .ok (.getfield 49, 3) := by decide +kernel
theorem dX11_sell_4 : decode cX11_sell 4 = .ok (.iload_n 1, 1) := by decide +kernel
theorem dX11_sell_5 : decode cX11_sell 5 = .ok (.iload_n 2, 1) := by decide +kernel
theorem dX11_sell_6 : decode cX11_sell 6 = .ok (.iastore, 1) := by decide +kernel
theorem dX11_sell_7 : decode cX11_sell 7 = .ok (.aload_n 0, 1) := by decide +kernel
theorem dX11_sell_8 : decode cX11_sell 8 = .ok (.getfield 52, 3) := by decide +kernel
theorem dX11_sell_11 : decode cX11_sell 11 = .ok (.iload_n 1, 1) := by decide +kernel
theorem dX11_sell_12 : decode cX11_sell 12 = .ok (.iload_n 2, 1) := by decide +kernel
theorem dX11_sell_13 : decode cX11_sell 13 = .ok (.ifCond .ge 8, 3) := by decide +kernel
theorem dX11_sell_16 : decode cX11_sell 16 = .ok (.bipush (-6), 2) := by decide +kernel
theorem dX11_sell_18 : decode cX11_sell 18 = .ok (.goto 4, 3) := by decide +kernel
theorem dX11_sell_21 : decode cX11_sell 21 = .ok (.iload_n 3, 1) := by decide +kernel
theorem dX11_sell_22 : decode cX11_sell 22 = .ok (.iastore, 1) := by decide +kernel
theorem dX11_sell_23 : decode cX11_sell 23 = .ok (.aload_n 0, 1) := by decide +kernel
theorem dX11_sell_24 : decode cX11_sell 24 = .ok (.getfield 55, 3) := by decide +kernel
theorem dX11_sell_27 : decode cX11_sell 27 = .ok (.iload_n 1, 1) := by decide +kernel
theorem dX11_sell_28 : decode cX11_sell 28 = .ok (.iload 4, 2) := by decide +kernel
theorem dX11_sell_30 : decode cX11_sell 30 = .ok (.iastore, 1) := by decide +kernel
theorem dX11_sell_31 : decode cX11_sell 31 = .ok (.iload_n 2, 1) := by decide +kernel
theorem dX11_sell_32 : decode cX11_sell 32 = .ok (.ifCond .lt 25, 3) := by decide +kernel
theorem dX11_sell_35 : decode cX11_sell 35 = .ok (.aload_n 0, 1) := by decide +kernel
theorem dX11_sell_36 : decode cX11_sell 36 = .ok (.getfield 58, 3) := by decide +kernel
theorem dX11_sell_39 : decode cX11_sell 39 = .ok (.iload_n 2, 1) := by decide +kernel
theorem dX11_sell_40 : decode cX11_sell 40 = .ok (.dup2, 1) := by decide +kernel
theorem dX11_sell_41 : decode cX11_sell 41 = .ok (.iaload, 1) := by decide +kernel
theorem dX11_sell_42 : decode cX11_sell 42 = .ok (.iconst 1, 1) := by decide +kernel
theorem dX11_sell_43 : decode cX11_sell 43 = .ok (.iload_n 1, 1) := by decide +kernel
theorem dX11_sell_44 : decode cX11_sell 44 = .ok (.ishl, 1) := by decide +kernel
theorem dX11_sell_45 : decode cX11_sell 45 = .ok (.ior, 1) := by decide +kernel
theorem dX11_sell_46 : decode cX11_sell 46 = .ok (.iastore, 1) := by decide +kernel
theorem dX11_sell_47 : decode cX11_sell 47 = .ok (.aload_n 0, 1) := by decide +kernel
theorem dX11_sell_48 : decode cX11_sell 48 = .ok (.getfield 61, 3) := by decide +kernel
theorem dX11_sell_51 : decode cX11_sell 51 = .ok (.iload_n 2, 1) := by decide +kernel
theorem dX11_sell_52 : decode cX11_sell 52 = .ok (.dup2, 1) := by decide +kernel
theorem dX11_sell_53 : decode cX11_sell 53 = .ok (.iaload, 1) := by decide +kernel
theorem dX11_sell_54 : decode cX11_sell 54 = .ok (.iload_n 3, 1) := by decide +kernel
theorem dX11_sell_55 : decode cX11_sell 55 = .ok (.isub, 1) := by decide +kernel
theorem dX11_sell_56 : decode cX11_sell 56 = .ok (.iastore, 1) := by decide +kernel
theorem dX11_sell_57 : decode cX11_sell 57 = .ok (.return_, 1) := by decide +kernel
theorem dX11_sold_0 : decode cX11_sold 0 = .ok (.aload_n 0, 1) := by decide +kernel
theorem dX11_sold_1 : decode cX11_sold 1 = .ok (.iload_n 1, 1) := by decide +kernel
theorem dX11_sold_2 : decode cX11_sold 2 = .ok (.invokevirtual 169, 3) := by decide +kernel
theorem dX11_sold_5 : decode cX11_sold 5 = .ok (.ifCond .ne 5, 3) := by decide +kernel
theorem dX11_sold_8 : decode cX11_sold 8 = .ok (.iconst (-1), 1) := by decide +kernel
theorem dX11_sold_9 : decode cX11_sold 9 = .ok (.ireturn, 1) := by decide +kernel
theorem dX11_sold_10 : decode cX11_sold 10 = .ok (.iload_n 2, 1) := by decide +kernel
theorem dX11_sold_11 : decode cX11_sold 11 = .ok (.i2l, 1) := by decide +kernel
theorem dX11_sold_12 : decode cX11_sold 12 = .ok (.lconst 0, 1) := by decide +kernel
theorem dX11_sold_13 : decode cX11_sold 13 = .ok (.ldc2_w 119, 3) := by decide +kernel
theorem dX11_sold_16 : decode cX11_sold 16 = .ok (.invokestatic 110, 3) := by decide +kernel
theorem dX11_sold_19 : decode cX11_sold 19 = .ok (.ifCond .ne 6, 3) := by decide +kernel
theorem dX11_sold_22 : decode cX11_sold 22 = .ok (.bipush (-2), 2) := by decide +kernel
theorem dX11_sold_24 : decode cX11_sold 24 = .ok (.ireturn, 1) := by decide +kernel
theorem dX11_sold_25 : decode cX11_sold 25 = .ok (.aload_n 0, 1) := by decide +kernel
theorem dX11_sold_26 : decode cX11_sold 26 = .ok (.invokevirtual 182, 3) := by decide +kernel
theorem dX11_sold_29 : decode cX11_sold 29 = .ok (.aload_n 0, 1) := by decide +kernel
theorem dX11_sold_30 : decode cX11_sold 30 = .ok (.aload_n 0, 1) := by decide +kernel
theorem dX11_sold_31 : decode cX11_sold 31 = .ok (.getfield 103, 3) := by decide +kernel
theorem dX11_sold_34 : decode cX11_sold 34 = .ok (.invokevirtual 185, 3) := by decide +kernel
theorem dX11_sold_37 : decode cX11_sold 37 = .ok (.iload_n 2, 1) := by decide +kernel
theorem dX11_sold_38 : decode cX11_sold 38 = .ok (.ifCond .ne 12, 3) := by decide +kernel
theorem dX11_sold_41 : decode cX11_sold 41 = .ok (.aload_n 0, 1) := by decide +kernel
theorem dX11_sold_42 : decode cX11_sold 42 = .ok (.getfield 49, 3) := by decide +kernel
theorem dX11_sold_45 : decode cX11_sold 45 = .ok (.iload_n 1, 1) := by decide +kernel
theorem dX11_sold_46 : decode cX11_sold 46 = .ok (.iaload, 1) := by decide +kernel
theorem dX11_sold_47 : decode cX11_sold 47 = .ok (.goto 23, 3) := by decide +kernel
theorem dX11_sold_50 : decode cX11_sold 50 = .ok (.iload_n 2, 1) := by decide +kernel
theorem dX11_sold_51 : decode cX11_sold 51 = .ok (.iconst 1, 1) := by decide +kernel
theorem dX11_sold_52 : decode cX11_sold 52 = .ok (.if_icmp .ne 12, 3) := by decide +kernel
theorem dX11_sold_55 : decode cX11_sold 55 = .ok (.aload_n 0, 1) := by decide +kernel
theorem dX11_sold_56 : decode cX11_sold 56 = .ok (.getfield 52, 3) := by decide +kernel
theorem dX11_sold_59 : decode cX11_sold 59 = .ok (.iload_n 1, 1) := by decide +kernel
theorem dX11_sold_60 : decode cX11_sold 60 = .ok (.iaload, 1) := by decide +kernel
theorem dX11_sold_61 : decode cX11_sold 61 = .ok (.goto 9, 3) := by decide +kernel
theorem dX11_sold_64 : decode cX11_sold 64 = .ok (.aload_n 0, 1) := by decide +kernel
theorem dX11_sold_65 : decode cX11_sold 65 = .ok (.getfield 55, 3) := by decide +kernel
theorem dX11_sold_68 : decode cX11_sold 68 = .ok (.iload_n 1, 1) := by decide +kernel
theorem dX11_sold_69 : decode cX11_sold 69 = .ok (.iaload, 1) := by decide +kernel
theorem dX11_sold_70 : decode cX11_sold 70 = .ok (.ireturn, 1) := by decide +kernel
theorem dX11_worthOfDay_0 : decode cX11_worthOfDay 0 = .ok (.aload_n 0, 1) := by decide +kernel
theorem dX11_worthOfDay_1 : decode cX11_worthOfDay 1 = .ok (.getfield 46, 3) := by decide +kernel
theorem dX11_worthOfDay_4 : decode cX11_worthOfDay 4 = .ok (.sipush 256, 3) := by decide +kernel
theorem dX11_worthOfDay_7 : decode cX11_worthOfDay 7 = .ok (.iload_n 1, 1) := by decide +kernel
theorem dX11_worthOfDay_8 : decode cX11_worthOfDay 8 = .ok (.imul, 1) := by decide +kernel
theorem dX11_worthOfDay_9 : decode cX11_worthOfDay 9 = .ok (.aload_n 0, 1) := by decide +kernel
theorem dX11_worthOfDay_10 : decode cX11_worthOfDay 10 = .ok (.getfield 58, 3) := by decide +kernel
theorem dX11_worthOfDay_13 : decode cX11_worthOfDay 13 = .ok (.iload_n 1, 1) := by decide +kernel
theorem dX11_worthOfDay_14 : decode cX11_worthOfDay 14 = .ok (.iaload, 1) := by decide +kernel
theorem dX11_worthOfDay_15 : decode cX11_worthOfDay 15 = .ok (.iadd, 1) := by decide +kernel
theorem dX11_worthOfDay_16 : decode cX11_worthOfDay 16 = .ok (.iaload, 1) := by decide +kernel
theorem dX11_worthOfDay_17 : decode cX11_worthOfDay 17 = .ok (.ireturn, 1) := by decide +kernel
theorem dX11_day_0 : decode cX11_day 0 = .ok (.aload_n 0, 1) := by decide +kernel
theorem dX11_day_1 : decode cX11_day 1 = .ok (.iload_n 1, 1) := by decide +kernel
theorem dX11_day_2 : decode cX11_day 2 = .ok (.invokevirtual 123, 3) := by decide +kernel
theorem dX11_day_5 : decode cX11_day 5 = .ok (.ifCond .ne 5, 3) := by decide +kernel
theorem dX11_day_8 : decode cX11_day 8 = .ok (.iconst (-1), 1) := by decide +kernel
theorem dX11_day_9 : decode cX11_day 9 = .ok (.ireturn, 1) := by decide +kernel
theorem dX11_day_10 : decode cX11_day 10 = .ok (.iload_n 2, 1) := by decide +kernel
theorem dX11_day_11 : decode cX11_day 11 = .ok (.i2l, 1) := by decide +kernel
theorem dX11_day_12 : decode cX11_day 12 = .ok (.lconst 0, 1) := by decide +kernel
theorem dX11_day_13 : decode cX11_day 13 = .ok (.ldc2_w 189, 3) := by decide +kernel
theorem dX11_day_16 : decode cX11_day 16 = .ok (.invokestatic 110, 3) := by decide +kernel
theorem dX11_day_19 : decode cX11_day 19 = .ok (.ifCond .ne 6, 3) := by decide +kernel
theorem dX11_day_22 : decode cX11_day 22 = .ok (.bipush (-2), 2) := by decide +kernel
theorem dX11_day_24 : decode cX11_day 24 = .ok (.ireturn, 1) := by decide +kernel
theorem dX11_day_25 : decode cX11_day 25 = .ok (.aload_n 0, 1) := by decide +kernel
theorem dX11_day_26 : decode cX11_day 26 = .ok (.invokevirtual 182, 3) := by decide +kernel
theorem dX11_day_29 : decode cX11_day 29 = .ok (.aload_n 0, 1) := by decide +kernel
theorem dX11_day_30 : decode cX11_day 30 = .ok (.aload_n 0, 1) := by decide +kernel
theorem dX11_day_31 : decode cX11_day 31 = .ok (.getfield 103, 3) := by decide +kernel
theorem dX11_day_34 : decode cX11_day 34 = .ok (.invokevirtual 185, 3) := by decide +kernel
theorem dX11_day_37 : decode cX11_day 37 = .ok (.iload_n 2, 1) := by decide +kernel
theorem dX11_day_38 : decode cX11_day 38 = .ok (.ifCond .ne 12, 3) := by decide +kernel
theorem dX11_day_41 : decode cX11_day 41 = .ok (.aload_n 0, 1) := by decide +kernel
theorem dX11_day_42 : decode cX11_day 42 = .ok (.getfield 58, 3) := by decide +kernel
theorem dX11_day_45 : decode cX11_day 45 = .ok (.iload_n 1, 1) := by decide +kernel
theorem dX11_day_46 : decode cX11_day 46 = .ok (.iaload, 1) := by decide +kernel
theorem dX11_day_47 : decode cX11_day 47 = .ok (.goto 43, 3) := by decide +kernel
theorem dX11_day_50 : decode cX11_day 50 = .ok (.iload_n 2, 1) := by decide +kernel
theorem dX11_day_51 : decode cX11_day 51 = .ok (.iconst 1, 1) := by decide +kernel
theorem dX11_day_52 : decode cX11_day 52 = .ok (.if_icmp .ne 11, 3) := by decide +kernel
theorem dX11_day_55 : decode cX11_day 55 = .ok (.aload_n 0, 1) := by decide +kernel
theorem dX11_day_56 : decode cX11_day 56 = .ok (.iload_n 1, 1) := by decide +kernel
theorem dX11_day_57 : decode cX11_day 57 = .ok (.invokevirtual 191, 3) := by decide +kernel
theorem dX11_day_60 : decode cX11_day 60 = .ok (.goto 30, 3) := by decide +kernel
theorem dX11_day_63 : decode cX11_day 63 = .ok (.iload_n 2, 1) := by decide +kernel
theorem dX11_day_64 : decode cX11_day 64 = .ok (.iconst 2, 1) := by decide +kernel
theorem dX11_day_65 : decode cX11_day 65 = .ok (.if_icmp .ne 19, 3) := by decide +kernel
theorem dX11_day_68 : decode cX11_day 68 = .ok (.aload_n 0, 1) := by decide +kernel
theorem dX11_day_69 : decode cX11_day 69 = .ok (.getfield 22, 3) := by decide +kernel
theorem dX11_day_72 : decode cX11_day 72 = .ok (.iload_n 1, 1) := by decide +kernel
theorem dX11_day_73 : decode cX11_day 73 = .ok (.iaload, 1) := by decide +kernel
theorem dX11_day_74 : decode cX11_day 74 = .ok (.aload_n 0, 1) := by decide +kernel
theorem dX11_day_75 : decode cX11_day 75 = .ok (.getfield 61, 3) := by decide +kernel
theorem dX11_day_78 : decode cX11_day 78 = .ok (.iload_n 1, 1) := by decide +kernel
theorem dX11_day_79 : decode cX11_day 79 = .ok (.iaload, 1) := by decide +kernel
theorem dX11_day_80 : decode cX11_day 80 = .ok (.isub, 1) := by decide +kernel
theorem dX11_day_81 : decode cX11_day 81 = .ok (.goto 9, 3) := by decide +kernel
theorem dX11_day_84 : decode cX11_day 84 = .ok (.aload_n 0, 1) := by decide +kernel
theorem dX11_day_85 : decode cX11_day 85 = .ok (.getfield 61, 3) := by decide +kernel
theorem dX11_day_88 : decode cX11_day 88 = .ok (.iload_n 1, 1) := by decide +kernel
theorem dX11_day_89 : decode cX11_day 89 = .ok (.iaload, 1) := by decide +kernel
theorem dX11_day_90 : decode cX11_day 90 = .ok (.ireturn, 1) := by decide +kernel
theorem dX11_findDealt_0 : decode cX11_findDealt 0 = .ok (.iconst 0, 1) := by decide +kernel
theorem dX11_findDealt_1 : decode cX11_findDealt 1 = .ok (.istore_n 1, 1) := by decide +kernel
theorem dX11_findDealt_2 : decode cX11_findDealt 2 = .ok (.iload_n 1, 1) := by decide +kernel
theorem dX11_findDealt_3 : decode cX11_findDealt 3 = .ok (.iconst 1, 1) := by decide +kernel
theorem dX11_findDealt_4 : decode cX11_findDealt 4 = .ok (.aload_n 0, 1) := by decide +kernel
theorem dX11_findDealt_5 : decode cX11_findDealt 5 = .ok (.getfield 107, 3) := by decide +kernel
theorem dX11_findDealt_8 : decode cX11_findDealt 8 = .ok (.ishl, 1) := by decide +kernel
theorem dX11_findDealt_9 : decode cX11_findDealt 9 = .ok (.if_icmp .ge 25, 3) := by decide +kernel
theorem dX11_findDealt_12 : decode cX11_findDealt 12 = .ok (.aload_n 0, 1) := by decide +kernel
theorem dX11_findDealt_13 : decode cX11_findDealt 13 = .ok (.getfield 70, 3) := by decide +kernel
theorem dX11_findDealt_16 : decode cX11_findDealt 16 = .ok (.sipush 256, 3) := by decide +kernel
theorem dX11_findDealt_19 : decode cX11_findDealt 19 = .ok (.aload_n 0, 1) := by decide +kernel
theorem dX11_findDealt_20 : decode cX11_findDealt 20 = .ok (.getfield 114, 3) := by decide +kernel
theorem dX11_findDealt_23 : decode cX11_findDealt 23 = .ok (.imul, 1) := by decide +kernel
theorem dX11_findDealt_24 : decode cX11_findDealt 24 = .ok (.iload_n 1, 1) := by decide +kernel
theorem dX11_findDealt_25 : decode cX11_findDealt 25 = .ok (.iadd, 1) := by decide +kernel
theorem dX11_findDealt_26 : decode cX11_findDealt 26 = .ok (.iconst 0, 1) := by decide +kernel
theorem dX11_findDealt_27 : decode cX11_findDealt 27 = .ok (.iastore, 1) := by decide +kernel
theorem dX11_findDealt_28 : decode cX11_findDealt 28 = .ok (.iinc 1 1, 3) := by decide +kernel
theorem dX11_findDealt_31 : decode cX11_findDealt 31 = .ok (.goto (-29), 3) := by decide +kernel
theorem dX11_findDealt_34 : decode cX11_findDealt 34 = .ok (.aload_n 0, 1) := by decide +kernel
theorem dX11_findDealt_35 : decode cX11_findDealt 35 = .ok (.getfield 114, 3) := by decide +kernel
theorem dX11_findDealt_38 : decode cX11_findDealt 38 = .ok (.iconst 1, 1) := by decide +kernel
theorem dX11_findDealt_39 : decode cX11_findDealt 39 = .ok (.isub, 1) := by decide +kernel
theorem dX11_findDealt_40 : decode cX11_findDealt 40 = .ok (.istore_n 1, 1) := by decide +kernel
theorem dX11_findDealt_41 : decode cX11_findDealt 41 = .ok (.iload_n 1, 1) := by decide +kernel
theorem dX11_findDealt_42 : decode cX11_findDealt 42 = .ok (.ifCond .lt 160, 3) := by decide +kernel
theorem dX11_findDealt_45 : decode cX11_findDealt 45 = .ok (.iconst 0, 1) := by decide +kernel
theorem dX11_findDealt_46 : decode cX11_findDealt 46 = .ok (.istore_n 2, 1) := by decide +kernel
theorem dX11_findDealt_47 : decode cX11_findDealt 47 = .ok (.iload_n 2, 1) := by decide +kernel
theorem dX11_findDealt_48 : decode cX11_findDealt 48 = .ok (.iconst 1, 1) := by decide +kernel
theorem dX11_findDealt_49 : decode cX11_findDealt 49 = .ok (.aload_n 0, 1) := by decide +kernel
theorem dX11_findDealt_50 : decode cX11_findDealt 50 = .ok (.getfield 107, 3) := by decide +kernel
theorem dX11_findDealt_53 : decode cX11_findDealt 53 = .ok (.ishl, 1) := by decide +kernel
theorem dX11_findDealt_54 : decode cX11_findDealt 54 = .ok (.if_icmp .ge 142, 3) := by decide +kernel
theorem dX11_findDealt_57 : decode cX11_findDealt 57 = .ok (.aload_n 0, 1) := by decide +kernel
theorem dX11_findDealt_58 : decode cX11_findDealt 58 = .ok (.getfield 70, 3) := by decide +kernel
theorem dX11_findDealt_61 : decode cX11_findDealt 61 = .ok (.sipush 256, 3) := by decide +kernel
theorem dX11_findDealt_64 : decode cX11_findDealt 64 = .ok (.iload_n 1, 1) := by decide +kernel
theorem dX11_findDealt_65 : decode cX11_findDealt 65 = .ok (.iconst 1, 1) := by decide +kernel
theorem dX11_findDealt_66 : decode cX11_findDealt 66 = .ok (.iadd, 1) := by decide +kernel
theorem dX11_findDealt_67 : decode cX11_findDealt 67 = .ok (.imul, 1) := by decide +kernel
theorem dX11_findDealt_68 : decode cX11_findDealt 68 = .ok (.iload_n 2, 1) := by decide +kernel
theorem dX11_findDealt_69 : decode cX11_findDealt 69 = .ok (.iadd, 1) := by decide +kernel
theorem dX11_findDealt_70 : decode cX11_findDealt 70 = .ok (.iaload, 1) := by decide +kernel
theorem dX11_findDealt_71 : decode cX11_findDealt 71 = .ok (.istore_n 3, 1) := by decide +kernel
theorem dX11_findDealt_72 : decode cX11_findDealt 72 = .ok (.iload_n 2, 1) := by decide +kernel
theorem dX11_findDealt_73 : decode cX11_findDealt 73 = .ok (.istore 4, 2) := by decide +kernel
theorem dX11_findDealt_75 : decode cX11_findDealt 75 = .ok (.iload 4, 2) := by decide +kernel
theorem dX11_findDealt_77 : decode cX11_findDealt 77 = .ok (.ifCond .le 62, 3) := by decide +kernel
theorem dX11_findDealt_80 : decode cX11_findDealt 80 = .ok (.aload_n 0, 1) := by decide +kernel
theorem dX11_findDealt_81 : decode cX11_findDealt 81 = .ok (.getfield 46, 3) := by decide +kernel
theorem dX11_findDealt_84 : decode cX11_findDealt 84 = .ok (.sipush 256, 3) := by decide +kernel
theorem dX11_findDealt_87 : decode cX11_findDealt 87 = .ok (.iload_n 1, 1) := by decide +kernel
theorem dX11_findDealt_88 : decode cX11_findDealt 88 = .ok (.imul, 1) := by decide +kernel
theorem dX11_findDealt_89 : decode cX11_findDealt 89 = .ok (.iload 4, 2) := by decide +kernel
theorem dX11_findDealt_91 : decode cX11_findDealt 91 = .ok (.iadd, 1) := by decide +kernel
theorem dX11_findDealt_92 : decode cX11_findDealt 92 = .ok (.iaload, 1) := by decide +kernel
theorem dX11_findDealt_93 : decode cX11_findDealt 93 = .ok (.aload_n 0, 1) := by decide +kernel
theorem dX11_findDealt_94 : decode cX11_findDealt 94 = .ok (.getfield 70, 3) := by decide +kernel
theorem dX11_findDealt_97 : decode cX11_findDealt 97 = .ok (.sipush 256, 3) := by decide +kernel
theorem dX11_findDealt_100 : decode cX11_findDealt 100 = .ok (.iload_n 1, 1) := by decide +kernel
theorem dX11_findDealt_101 : decode cX11_findDealt 101 = .ok (.iconst 1, 1) := by decide +kernel
theorem dX11_findDealt_102 : decode cX11_findDealt 102 = .ok (.iadd, 1) := by decide +kernel
theorem dX11_findDealt_103 : decode cX11_findDealt 103 = .ok (.imul, 1) := by decide +kernel
theorem dX11_findDealt_104 : decode cX11_findDealt 104 = .ok (.iload_n 2, 1) := by decide +kernel
theorem dX11_findDealt_105 : decode cX11_findDealt 105 = .ok (.iload 4, 2) := by decide +kernel
theorem dX11_findDealt_107 : decode cX11_findDealt 107 = .ok (.iconst (-1), 1) := by decide +kernel
theorem dX11_findDealt_108 : decode cX11_findDealt 108 = .ok (.ixor, 1) := by decide +kernel
theorem dX11_findDealt_109 : decode cX11_findDealt 109 = .ok (.iand, 1) := by decide +kernel
theorem dX11_findDealt_110 : decode cX11_findDealt 110 = .ok (.iadd, 1) := by decide +kernel
theorem dX11_findDealt_111 : decode cX11_findDealt 111 = .ok (.iaload, 1) := by decide +kernel
theorem dX11_findDealt_112 : decode cX11_findDealt 112 = .ok (.iadd, 1) := by decide +kernel
theorem dX11_findDealt_113 : decode cX11_findDealt 113 = .ok (.istore 5, 2) := by decide +kernel
theorem dX11_findDealt_115 : decode cX11_findDealt 115 = .ok (.iload 5, 2) := by decide +kernel
theorem dX11_findDealt_117 : decode cX11_findDealt 117 = .ok (.iload_n 3, 1) := by decide +kernel
theorem dX11_findDealt_118 : decode cX11_findDealt 118 = .ok (.if_icmp .le 8, 3) := by decide +kernel
theorem dX11_findDealt_121 : decode cX11_findDealt 121 = .ok (.iload 5, 2) := by decide +kernel
theorem dX11_findDealt_123 : decode cX11_findDealt 123 = .ok (.goto 4, 3) := by decide +kernel
theorem dX11_findDealt_126 : decode cX11_findDealt 126 = .ok (.iload_n 3, 1) := by decide +kernel
theorem dX11_findDealt_127 : decode cX11_findDealt 127 = .ok (.istore_n 3, 1) := by decide +kernel
theorem dX11_findDealt_128 : decode cX11_findDealt 128 = .ok (.iload 4, 2) := by decide +kernel
theorem dX11_findDealt_130 : decode cX11_findDealt 130 = .ok (.iconst 1, 1) := by decide +kernel
theorem dX11_findDealt_131 : decode cX11_findDealt 131 = .ok (.isub, 1) := by decide +kernel
theorem dX11_findDealt_132 : decode cX11_findDealt 132 = .ok (.iload_n 2, 1) := by decide +kernel
theorem dX11_findDealt_133 : decode cX11_findDealt 133 = .ok (.iand, 1) := by decide +kernel
theorem dX11_findDealt_134 : decode cX11_findDealt 134 = .ok (.istore 4, 2) := by decide +kernel
theorem dX11_findDealt_136 : decode cX11_findDealt 136 = .ok (.goto (-61), 3) := by decide +kernel
theorem dX11_findDealt_139 : decode cX11_findDealt 139 = .ok (.aload_n 0, 1) := by decide +kernel
theorem dX11_findDealt_140 : decode cX11_findDealt 140 = .ok (.getfield 46, 3) := by decide +kernel
theorem dX11_findDealt_143 : decode cX11_findDealt 143 = .ok (.sipush 256, 3) := by decide +kernel
theorem dX11_findDealt_146 : decode cX11_findDealt 146 = .ok (.iload_n 1, 1) := by decide +kernel
theorem dX11_findDealt_147 : decode cX11_findDealt 147 = .ok (.imul, 1) := by decide +kernel
theorem dX11_findDealt_148 : decode cX11_findDealt 148 = .ok (.iaload, 1) := by decide +kernel
theorem dX11_findDealt_149 : decode cX11_findDealt 149 = .ok (.aload_n 0, 1) := by decide +kernel
theorem dX11_findDealt_150 : decode cX11_findDealt 150 = .ok (.getfield 70, 3) := by decide +kernel
theorem dX11_findDealt_153 : decode cX11_findDealt 153 = .ok (.sipush 256, 3) := by decide +kernel
theorem dX11_findDealt_156 : decode cX11_findDealt 156 = .ok (.iload_n 1, 1) := by decide +kernel
theorem dX11_findDealt_157 : decode cX11_findDealt 157 = .ok (.iconst 1, 1) := by decide +kernel
theorem dX11_findDealt_158 : decode cX11_findDealt 158 = .ok (.iadd, 1) := by decide +kernel
theorem dX11_findDealt_159 : decode cX11_findDealt 159 = .ok (.imul, 1) := by decide +kernel
theorem dX11_findDealt_160 : decode cX11_findDealt 160 = .ok (.iload_n 2, 1) := by decide +kernel
theorem dX11_findDealt_161 : decode cX11_findDealt 161 = .ok (.iadd, 1) := by decide +kernel
theorem dX11_findDealt_162 : decode cX11_findDealt 162 = .ok (.iaload, 1) := by decide +kernel
theorem dX11_findDealt_163 : decode cX11_findDealt 163 = .ok (.iadd, 1) := by decide +kernel
theorem dX11_findDealt_164 : decode cX11_findDealt 164 = .ok (.istore 4, 2) := by decide +kernel
theorem dX11_findDealt_166 : decode cX11_findDealt 166 = .ok (.aload_n 0, 1) := by decide +kernel
theorem dX11_findDealt_167 : decode cX11_findDealt 167 = .ok (.getfield 70, 3) := by decide +kernel
theorem dX11_findDealt_170 : decode cX11_findDealt 170 = .ok (.sipush 256, 3) := by decide +kernel
theorem dX11_findDealt_173 : decode cX11_findDealt 173 = .ok (.iload_n 1, 1) := by decide +kernel
theorem dX11_findDealt_174 : decode cX11_findDealt 174 = .ok (.imul, 1) := by decide +kernel
theorem dX11_findDealt_175 : decode cX11_findDealt 175 = .ok (.iload_n 2, 1) := by decide +kernel
theorem dX11_findDealt_176 : decode cX11_findDealt 176 = .ok (.iadd, 1) := by decide +kernel
theorem dX11_findDealt_177 : decode cX11_findDealt 177 = .ok (.iload 4, 2) := by decide +kernel
theorem dX11_findDealt_179 : decode cX11_findDealt 179 = .ok (.iload_n 3, 1) := by decide +kernel
theorem dX11_findDealt_180 : decode cX11_findDealt 180 = .ok (.if_icmp .le 8, 3) := by decide +kernel
theorem dX11_findDealt_183 : decode cX11_findDealt 183 = .ok (.iload 4, 2) := by decide +kernel
theorem dX11_findDealt_185 : decode cX11_findDealt 185 = .ok (.goto 4, 3) := by decide +kernel
theorem dX11_findDealt_188 : decode cX11_findDealt 188 = .ok (.iload_n 3, 1) := by decide +kernel
theorem dX11_findDealt_189 : decode cX11_findDealt 189 = .ok (.iastore, 1) := by decide +kernel
theorem dX11_findDealt_190 : decode cX11_findDealt 190 = .ok (.iinc 2 1, 3) := by decide +kernel
theorem dX11_findDealt_193 : decode cX11_findDealt 193 = .ok (.goto (-146), 3) := by decide +kernel
theorem dX11_findDealt_196 : decode cX11_findDealt 196 = .ok (.iinc 1 (-1), 3) := by decide +kernel
theorem dX11_findDealt_199 : decode cX11_findDealt 199 = .ok (.goto (-158), 3) := by decide +kernel
theorem dX11_findDealt_202 : decode cX11_findDealt 202 = .ok (.return_, 1) := by decide +kernel
theorem dX11_dealtWorth_0 : decode cX11_dealtWorth 0 = .ok (.aload_n 0, 1) := by decide +kernel
theorem dX11_dealtWorth_1 : decode cX11_dealtWorth 1 = .ok (.getfield 70, 3) := by decide +kernel
theorem dX11_dealtWorth_4 : decode cX11_dealtWorth 4 = .ok (.iconst 1, 1) := by decide +kernel
theorem dX11_dealtWorth_5 : decode cX11_dealtWorth 5 = .ok (.aload_n 0, 1) := by decide +kernel
theorem dX11_dealtWorth_6 : decode cX11_dealtWorth 6 = .ok (.getfield 107, 3) := by decide +kernel
theorem dX11_dealtWorth_9 : decode cX11_dealtWorth 9 = .ok (.ishl, 1) := by decide +kernel
theorem dX11_dealtWorth_10 : decode cX11_dealtWorth 10 = .ok (.iconst 1, 1) := by decide +kernel
theorem dX11_dealtWorth_11 : decode cX11_dealtWorth 11 = .ok (.isub, 1) := by decide +kernel
theorem dX11_dealtWorth_12 : decode cX11_dealtWorth 12 = .ok (.iaload, 1) := by decide +kernel
theorem dX11_dealtWorth_13 : decode cX11_dealtWorth 13 = .ok (.ireturn, 1) := by decide +kernel
theorem dX11_dealt_0 : decode cX11_dealt 0 = .ok (.iload_n 1, 1) := by decide +kernel
theorem dX11_dealt_1 : decode cX11_dealt 1 = .ok (.iconst (-1), 1) := by decide +kernel
theorem dX11_dealt_2 : decode cX11_dealt 2 = .ok (.if_icmp .eq 13, 3) := by decide +kernel
theorem dX11_dealt_5 : decode cX11_dealt 5 = .ok (.aload_n 0, 1) := by decide +kernel
theorem dX11_dealt_6 : decode cX11_dealt 6 = .ok (.iload_n 1, 1) := by decide +kernel
theorem dX11_dealt_7 : decode cX11_dealt 7 = .ok (.invokevirtual 123, 3) := by decide +kernel
theorem dX11_dealt_10 : decode cX11_dealt 10 = .ok (.ifCond .ne 5, 3) := by decide +kernel
theorem dX11_dealt_13 : decode cX11_dealt 13 = .ok (.iconst (-1), 1) := by decide +kernel
theorem dX11_dealt_14 : decode cX11_dealt 14 = .ok (.ireturn, 1) := by decide +kernel
theorem dX11_dealt_15 : decode cX11_dealt 15 = .ok (.aload_n 0, 1) := by decide +kernel
theorem dX11_dealt_16 : decode cX11_dealt 16 = .ok (.invokevirtual 182, 3) := by decide +kernel
theorem dX11_dealt_19 : decode cX11_dealt 19 = .ok (.aload_n 0, 1) := by decide +kernel
theorem dX11_dealt_20 : decode cX11_dealt 20 = .ok (.invokevirtual 195, 3) := by decide +kernel
theorem dX11_dealt_23 : decode cX11_dealt 23 = .ok (.iload_n 1, 1) := by decide +kernel
theorem dX11_dealt_24 : decode cX11_dealt 24 = .ok (.iconst (-1), 1) := by decide +kernel
theorem dX11_dealt_25 : decode cX11_dealt 25 = .ok (.if_icmp .ne 8, 3) := by decide +kernel
theorem dX11_dealt_28 : decode cX11_dealt 28 = .ok (.aload_n 0, 1) := by decide +kernel
theorem dX11_dealt_29 : decode cX11_dealt 29 = .ok (.invokevirtual 198, 3) := by decide +kernel
theorem dX11_dealt_32 : decode cX11_dealt 32 = .ok (.ireturn, 1) := by decide +kernel
theorem dX11_dealt_33 : decode cX11_dealt 33 = .ok (.iconst 1, 1) := by decide +kernel
theorem dX11_dealt_34 : decode cX11_dealt 34 = .ok (.aload_n 0, 1) := by decide +kernel
theorem dX11_dealt_35 : decode cX11_dealt 35 = .ok (.getfield 107, 3) := by decide +kernel
theorem dX11_dealt_38 : decode cX11_dealt 38 = .ok (.ishl, 1) := by decide +kernel
theorem dX11_dealt_39 : decode cX11_dealt 39 = .ok (.iconst 1, 1) := by decide +kernel
theorem dX11_dealt_40 : decode cX11_dealt 40 = .ok (.isub, 1) := by decide +kernel
theorem dX11_dealt_41 : decode cX11_dealt 41 = .ok (.istore_n 2, 1) := by decide +kernel
theorem dX11_dealt_42 : decode cX11_dealt 42 = .ok (.iconst 0, 1) := by decide +kernel
theorem dX11_dealt_43 : decode cX11_dealt 43 = .ok (.istore_n 3, 1) := by decide +kernel
theorem dX11_dealt_44 : decode cX11_dealt 44 = .ok (.iconst 0, 1) := by decide +kernel
theorem dX11_dealt_45 : decode cX11_dealt 45 = .ok (.istore 4, 2) := by decide +kernel
theorem dX11_dealt_47 : decode cX11_dealt 47 = .ok (.iload 4, 2) := by decide +kernel
theorem dX11_dealt_49 : decode cX11_dealt 49 = .ok (.iload_n 1, 1) := by decide +kernel
theorem dX11_dealt_50 : decode cX11_dealt 50 = .ok (.if_icmp .gt 80, 3) := by decide +kernel
theorem dX11_dealt_53 : decode cX11_dealt 53 = .ok (.iconst 0, 1) := by decide +kernel
theorem dX11_dealt_54 : decode cX11_dealt 54 = .ok (.istore_n 3, 1) := by decide +kernel
theorem dX11_dealt_55 : decode cX11_dealt 55 = .ok (.iload_n 3, 1) := by decide +kernel
theorem dX11_dealt_56 : decode cX11_dealt 56 = .ok (.iload_n 2, 1) := by decide +kernel
theorem dX11_dealt_57 : decode cX11_dealt 57 = .ok (.iconst (-1), 1) := by decide +kernel
theorem dX11_dealt_58 : decode cX11_dealt 58 = .ok (.ixor, 1) := by decide +kernel
theorem dX11_dealt_59 : decode cX11_dealt 59 = .ok (.iand, 1) := by decide +kernel
theorem dX11_dealt_60 : decode cX11_dealt 60 = .ok (.ifCond .ne 52, 3) := by decide +kernel
theorem dX11_dealt_63 : decode cX11_dealt 63 = .ok (.aload_n 0, 1) := by decide +kernel
theorem dX11_dealt_64 : decode cX11_dealt 64 = .ok (.getfield 46, 3) := by decide +kernel
theorem dX11_dealt_67 : decode cX11_dealt 67 = .ok (.sipush 256, 3) := by decide +kernel
theorem dX11_dealt_70 : decode cX11_dealt 70 = .ok (.iload 4, 2) := by decide +kernel
theorem dX11_dealt_72 : decode cX11_dealt 72 = .ok (.imul, 1) := by decide +kernel
theorem dX11_dealt_73 : decode cX11_dealt 73 = .ok (.iload_n 3, 1) := by decide +kernel
theorem dX11_dealt_74 : decode cX11_dealt 74 = .ok (.iadd, 1) := by decide +kernel
theorem dX11_dealt_75 : decode cX11_dealt 75 = .ok (.iaload, 1) := by decide +kernel
theorem dX11_dealt_76 : decode cX11_dealt 76 = .ok (.aload_n 0, 1) := by decide +kernel
theorem dX11_dealt_77 : decode cX11_dealt 77 = .ok (.getfield 70, 3) := by decide +kernel
theorem dX11_dealt_80 : decode cX11_dealt 80 = .ok (.sipush 256, 3) := by decide +kernel
theorem dX11_dealt_83 : decode cX11_dealt 83 = .ok (.iload 4, 2) := by decide +kernel
theorem dX11_dealt_85 : decode cX11_dealt 85 = .ok (.iconst 1, 1) := by decide +kernel
theorem dX11_dealt_86 : decode cX11_dealt 86 = .ok (.iadd, 1) := by decide +kernel
theorem dX11_dealt_87 : decode cX11_dealt 87 = .ok (.imul, 1) := by decide +kernel
theorem dX11_dealt_88 : decode cX11_dealt 88 = .ok (.iload_n 2, 1) := by decide +kernel
theorem dX11_dealt_89 : decode cX11_dealt 89 = .ok (.iload_n 3, 1) := by decide +kernel
theorem dX11_dealt_90 : decode cX11_dealt 90 = .ok (.iconst (-1), 1) := by decide +kernel
theorem dX11_dealt_91 : decode cX11_dealt 91 = .ok (.ixor, 1) := by decide +kernel
theorem dX11_dealt_92 : decode cX11_dealt 92 = .ok (.iand, 1) := by decide +kernel
theorem dX11_dealt_93 : decode cX11_dealt 93 = .ok (.iadd, 1) := by decide +kernel
theorem dX11_dealt_94 : decode cX11_dealt 94 = .ok (.iaload, 1) := by decide +kernel
theorem dX11_dealt_95 : decode cX11_dealt 95 = .ok (.iadd, 1) := by decide +kernel
theorem dX11_dealt_96 : decode cX11_dealt 96 = .ok (.aload_n 0, 1) := by decide +kernel
theorem dX11_dealt_97 : decode cX11_dealt 97 = .ok (.getfield 70, 3) := by decide +kernel
theorem dX11_dealt_100 : decode cX11_dealt 100 = .ok (.sipush 256, 3) := by decide +kernel
theorem dX11_dealt_103 : decode cX11_dealt 103 = .ok (.iload 4, 2) := by decide +kernel
theorem dX11_dealt_105 : decode cX11_dealt 105 = .ok (.imul, 1) := by decide +kernel
theorem dX11_dealt_106 : decode cX11_dealt 106 = .ok (.iload_n 2, 1) := by decide +kernel
theorem dX11_dealt_107 : decode cX11_dealt 107 = .ok (.iadd, 1) := by decide +kernel
theorem dX11_dealt_108 : decode cX11_dealt 108 = .ok (.iaload, 1) := by decide +kernel
theorem dX11_dealt_109 : decode cX11_dealt 109 = .ok (.if_icmp .eq 9, 3) := by decide +kernel
theorem dX11_dealt_112 : decode cX11_dealt 112 = .ok (.iinc 3 1, 3) := by decide +kernel
theorem dX11_dealt_115 : decode cX11_dealt 115 = .ok (.goto (-60), 3) := by decide +kernel
theorem dX11_dealt_118 : decode cX11_dealt 118 = .ok (.iload_n 2, 1) := by decide +kernel
theorem dX11_dealt_119 : decode cX11_dealt 119 = .ok (.iload_n 3, 1) := by decide +kernel
theorem dX11_dealt_120 : decode cX11_dealt 120 = .ok (.iconst (-1), 1) := by decide +kernel
theorem dX11_dealt_121 : decode cX11_dealt 121 = .ok (.ixor, 1) := by decide +kernel
theorem dX11_dealt_122 : decode cX11_dealt 122 = .ok (.iand, 1) := by decide +kernel
theorem dX11_dealt_123 : decode cX11_dealt 123 = .ok (.istore_n 2, 1) := by decide +kernel
theorem dX11_dealt_124 : decode cX11_dealt 124 = .ok (.iinc 4 1, 3) := by decide +kernel
theorem dX11_dealt_127 : decode cX11_dealt 127 = .ok (.goto (-80), 3) := by decide +kernel
theorem dX11_dealt_130 : decode cX11_dealt 130 = .ok (.iload_n 3, 1) := by decide +kernel
theorem dX11_dealt_131 : decode cX11_dealt 131 = .ok (.ireturn, 1) := by decide +kernel
theorem dX11_price_0 : decode cX11_price 0 = .ok (.aload_n 0, 1) := by decide +kernel
theorem dX11_price_1 : decode cX11_price 1 = .ok (.iload_n 1, 1) := by decide +kernel
theorem dX11_price_2 : decode cX11_price 2 = .ok (.invokevirtual 169, 3) := by decide +kernel
theorem dX11_price_5 : decode cX11_price 5 = .ok (.ifCond .ne 5, 3) := by decide +kernel
theorem dX11_price_8 : decode cX11_price 8 = .ok (.iconst (-1), 1) := by decide +kernel
theorem dX11_price_9 : decode cX11_price 9 = .ok (.ireturn, 1) := by decide +kernel
theorem dX11_price_10 : decode cX11_price 10 = .ok (.iload_n 2, 1) := by decide +kernel
theorem dX11_price_11 : decode cX11_price 11 = .ok (.i2l, 1) := by decide +kernel
theorem dX11_price_12 : decode cX11_price 12 = .ok (.lconst 0, 1) := by decide +kernel
theorem dX11_price_13 : decode cX11_price 13 = .ok (.ldc2_w 127, 3) := by decide +kernel
theorem dX11_price_16 : decode cX11_price 16 = .ok (.invokestatic 110, 3) := by decide +kernel
theorem dX11_price_19 : decode cX11_price 19 = .ok (.ifCond .ne 6, 3) := by decide +kernel
theorem dX11_price_22 : decode cX11_price 22 = .ok (.bipush (-2), 2) := by decide +kernel
theorem dX11_price_24 : decode cX11_price 24 = .ok (.ireturn, 1) := by decide +kernel
theorem dX11_price_25 : decode cX11_price 25 = .ok (.aload_n 0, 1) := by decide +kernel
theorem dX11_price_26 : decode cX11_price 26 = .ok (.getfield 73, 3) := by decide +kernel
theorem dX11_price_29 : decode cX11_price 29 = .ok (.iload_n 1, 1) := by decide +kernel
theorem dX11_price_30 : decode cX11_price 30 = .ok (.iaload, 1) := by decide +kernel
theorem dX11_price_31 : decode cX11_price 31 = .ok (.istore_n 3, 1) := by decide +kernel
theorem dX11_price_32 : decode cX11_price 32 = .ok (.aload_n 0, 1) := by decide +kernel
theorem dX11_price_33 : decode cX11_price 33 = .ok (.getfield 73, 3) := by decide +kernel
theorem dX11_price_36 : decode cX11_price 36 = .ok (.iload_n 1, 1) := by decide +kernel
theorem dX11_price_37 : decode cX11_price 37 = .ok (.iload_n 2, 1) := by decide +kernel
theorem dX11_price_38 : decode cX11_price 38 = .ok (.iastore, 1) := by decide +kernel
theorem dX11_price_39 : decode cX11_price 39 = .ok (.iload_n 3, 1) := by decide +kernel
theorem dX11_price_40 : decode cX11_price 40 = .ok (.ireturn, 1) := by decide +kernel
theorem dX11_costOf_0 : decode cX11_costOf 0 = .ok (.iconst 0, 1) := by decide +kernel
theorem dX11_costOf_1 : decode cX11_costOf 1 = .ok (.istore_n 3, 1) := by decide +kernel
theorem dX11_costOf_2 : decode cX11_costOf 2 = .ok (.iconst 0, 1) := by decide +kernel
theorem dX11_costOf_3 : decode cX11_costOf 3 = .ok (.istore 4, 2) := by decide +kernel
theorem dX11_costOf_5 : decode cX11_costOf 5 = .ok (.iload 4, 2) := by decide +kernel
theorem dX11_costOf_7 : decode cX11_costOf 7 = .ok (.aload_n 0, 1) := by decide +kernel
theorem dX11_costOf_8 : decode cX11_costOf 8 = .ok (.getfield 107, 3) := by decide +kernel
theorem dX11_costOf_11 : decode cX11_costOf 11 = .ok (.if_icmp .ge 30, 3) := by decide +kernel
theorem dX11_costOf_14 : decode cX11_costOf 14 = .ok (.iload_n 3, 1) := by decide +kernel
theorem dX11_costOf_15 : decode cX11_costOf 15 = .ok (.iload_n 1, 1) := by decide +kernel
theorem dX11_costOf_16 : decode cX11_costOf 16 = .ok (.iload 4, 2) := by decide +kernel
theorem dX11_costOf_18 : decode cX11_costOf 18 = .ok (.ishr, 1) := by decide +kernel
theorem dX11_costOf_19 : decode cX11_costOf 19 = .ok (.iconst 1, 1) := by decide +kernel
theorem dX11_costOf_20 : decode cX11_costOf 20 = .ok (.iand, 1) := by decide +kernel
theorem dX11_costOf_21 : decode cX11_costOf 21 = .ok (.iconst 1, 1) := by decide +kernel
theorem dX11_costOf_22 : decode cX11_costOf 22 = .ok (.if_icmp .ne 10, 3) := by decide +kernel
theorem dX11_costOf_25 : decode cX11_costOf 25 = .ok (.aload_n 2, 1) := by decide +kernel
theorem dX11_costOf_26 : decode cX11_costOf 26 = .ok (.iload 4, 2) := by decide +kernel
theorem dX11_costOf_28 : decode cX11_costOf 28 = .ok (.iaload, 1) := by decide +kernel
theorem dX11_costOf_29 : decode cX11_costOf 29 = .ok (.goto 4, 3) := by decide +kernel
theorem dX11_costOf_32 : decode cX11_costOf 32 = .ok (.iconst 0, 1) := by decide +kernel
theorem dX11_costOf_33 : decode cX11_costOf 33 = .ok (.iadd, 1) := by decide +kernel
theorem dX11_costOf_34 : decode cX11_costOf 34 = .ok (.istore_n 3, 1) := by decide +kernel
theorem dX11_costOf_35 : decode cX11_costOf 35 = .ok (.iinc 4 1, 3) := by decide +kernel
theorem dX11_costOf_38 : decode cX11_costOf 38 = .ok (.goto (-33), 3) := by decide +kernel
theorem dX11_costOf_41 : decode cX11_costOf 41 = .ok (.iload_n 3, 1) := by decide +kernel
theorem dX11_costOf_42 : decode cX11_costOf 42 = .ok (.ireturn, 1) := by decide +kernel
theorem dX11_liked_0 : decode cX11_liked 0 = .ok (.iconst 0, 1) := by decide +kernel
theorem dX11_liked_1 : decode cX11_liked 1 = .ok (.istore_n 3, 1) := by decide +kernel
theorem dX11_liked_2 : decode cX11_liked 2 = .ok (.aload_n 0, 1) := by decide +kernel
theorem dX11_liked_3 : decode cX11_liked 3 = .ok (.getfield 46, 3) := by decide +kernel
theorem dX11_liked_6 : decode cX11_liked 6 = .ok (.sipush 256, 3) := by decide +kernel
theorem dX11_liked_9 : decode cX11_liked 9 = .ok (.iload_n 1, 1) := by decide +kernel
theorem dX11_liked_10 : decode cX11_liked 10 = .ok (.imul, 1) := by decide +kernel
theorem dX11_liked_11 : decode cX11_liked 11 = .ok (.iaload, 1) := by decide +kernel
theorem dX11_liked_12 : decode cX11_liked 12 = .ok (.istore 4, 2) := by decide +kernel
theorem dX11_liked_14 : decode cX11_liked 14 = .ok (.iconst 1, 1) := by decide +kernel
theorem dX11_liked_15 : decode cX11_liked 15 = .ok (.istore 5, 2) := by decide +kernel
theorem dX11_liked_17 : decode cX11_liked 17 = .ok (.iload 5, 2) := by decide +kernel
theorem dX11_liked_19 : decode cX11_liked 19 = .ok (.iconst 1, 1) := by decide +kernel
theorem dX11_liked_20 : decode cX11_liked 20 = .ok (.aload_n 0, 1) := by decide +kernel
theorem dX11_liked_21 : decode cX11_liked 21 = .ok (.getfield 107, 3) := by decide +kernel
theorem dX11_liked_24 : decode cX11_liked 24 = .ok (.ishl, 1) := by decide +kernel
theorem dX11_liked_25 : decode cX11_liked 25 = .ok (.if_icmp .ge 46, 3) := by decide +kernel
theorem dX11_liked_28 : decode cX11_liked 28 = .ok (.aload_n 0, 1) := by decide +kernel
theorem dX11_liked_29 : decode cX11_liked 29 = .ok (.getfield 46, 3) := by decide +kernel
theorem dX11_liked_32 : decode cX11_liked 32 = .ok (.sipush 256, 3) := by decide +kernel
theorem dX11_liked_35 : decode cX11_liked 35 = .ok (.iload_n 1, 1) := by decide +kernel
theorem dX11_liked_36 : decode cX11_liked 36 = .ok (.imul, 1) := by decide +kernel
theorem dX11_liked_37 : decode cX11_liked 37 = .ok (.iload 5, 2) := by decide +kernel
theorem dX11_liked_39 : decode cX11_liked 39 = .ok (.iadd, 1) := by decide +kernel
theorem dX11_liked_40 : decode cX11_liked 40 = .ok (.iaload, 1) := by decide +kernel
theorem dX11_liked_41 : decode cX11_liked 41 = .ok (.aload_n 0, 1) := by decide +kernel
theorem dX11_liked_42 : decode cX11_liked 42 = .ok (.iload 5, 2) := by decide +kernel
theorem dX11_liked_44 : decode cX11_liked 44 = .ok (.aload_n 2, 1) := by decide +kernel
theorem dX11_liked_45 : decode cX11_liked 45 = .ok (.invokevirtual 201, 3) := by decide +kernel
theorem dX11_liked_48 : decode cX11_liked 48 = .ok (.isub, 1) := by decide +kernel
theorem dX11_liked_49 : decode cX11_liked 49 = .ok (.istore 6, 2) := by decide +kernel
theorem dX11_liked_51 : decode cX11_liked 51 = .ok (.iload 6, 2) := by decide +kernel
theorem dX11_liked_53 : decode cX11_liked 53 = .ok (.iload 4, 2) := by decide +kernel
theorem dX11_liked_55 : decode cX11_liked 55 = .ok (.if_icmp .le 10, 3) := by decide +kernel
theorem dX11_liked_58 : decode cX11_liked 58 = .ok (.iload 6, 2) := by decide +kernel
theorem dX11_liked_60 : decode cX11_liked 60 = .ok (.istore 4, 2) := by decide +kernel
theorem dX11_liked_62 : decode cX11_liked 62 = .ok (.iload 5, 2) := by decide +kernel
theorem dX11_liked_64 : decode cX11_liked 64 = .ok (.istore_n 3, 1) := by decide +kernel
theorem dX11_liked_65 : decode cX11_liked 65 = .ok (.iinc 5 1, 3) := by decide +kernel
theorem dX11_liked_68 : decode cX11_liked 68 = .ok (.goto (-51), 3) := by decide +kernel
theorem dX11_liked_71 : decode cX11_liked 71 = .ok (.iload_n 3, 1) := by decide +kernel
theorem dX11_liked_72 : decode cX11_liked 72 = .ok (.ireturn, 1) := by decide +kernel
theorem dX11_over_0 : decode cX11_over 0 = .ok (.aload_n 0, 1) := by decide +kernel
theorem dX11_over_1 : decode cX11_over 1 = .ok (.getfield 46, 3) := by decide +kernel
theorem dX11_over_4 : decode cX11_over 4 = .ok (.sipush 256, 3) := by decide +kernel
theorem dX11_over_7 : decode cX11_over 7 = .ok (.iload_n 1, 1) := by decide +kernel
theorem dX11_over_8 : decode cX11_over 8 = .ok (.imul, 1) := by decide +kernel
theorem dX11_over_9 : decode cX11_over 9 = .ok (.iload_n 2, 1) := by decide +kernel
theorem dX11_over_10 : decode cX11_over 10 = .ok (.iadd, 1) := by decide +kernel
theorem dX11_over_11 : decode cX11_over 11 = .ok (.iaload, 1) := by decide +kernel
theorem dX11_over_12 : decode cX11_over 12 = .ok (.aload_n 0, 1) := by decide +kernel
theorem dX11_over_13 : decode cX11_over 13 = .ok (.iload_n 2, 1) := by decide +kernel
theorem dX11_over_14 : decode cX11_over 14 = .ok (.aload_n 3, 1) := by decide +kernel
theorem dX11_over_15 : decode cX11_over 15 = .ok (.invokevirtual 201, 3) := by decide +kernel
theorem dX11_over_18 : decode cX11_over 18 = .ok (.isub, 1) := by decide +kernel
theorem dX11_over_19 : decode cX11_over 19 = .ok (.ireturn, 1) := by decide +kernel
theorem dX11_likes_0 : decode cX11_likes 0 = .ok (.aload_n 0, 1) := by decide +kernel
theorem dX11_likes_1 : decode cX11_likes 1 = .ok (.iload_n 1, 1) := by decide +kernel
theorem dX11_likes_2 : decode cX11_likes 2 = .ok (.invokevirtual 123, 3) := by decide +kernel
theorem dX11_likes_5 : decode cX11_likes 5 = .ok (.ifCond .ne 5, 3) := by decide +kernel
theorem dX11_likes_8 : decode cX11_likes 8 = .ok (.iconst (-1), 1) := by decide +kernel
theorem dX11_likes_9 : decode cX11_likes 9 = .ok (.ireturn, 1) := by decide +kernel
theorem dX11_likes_10 : decode cX11_likes 10 = .ok (.iload_n 2, 1) := by decide +kernel
theorem dX11_likes_11 : decode cX11_likes 11 = .ok (.i2l, 1) := by decide +kernel
theorem dX11_likes_12 : decode cX11_likes 12 = .ok (.lconst 0, 1) := by decide +kernel
theorem dX11_likes_13 : decode cX11_likes 13 = .ok (.lconst 1, 1) := by decide +kernel
theorem dX11_likes_14 : decode cX11_likes 14 = .ok (.invokestatic 110, 3) := by decide +kernel
theorem dX11_likes_17 : decode cX11_likes 17 = .ok (.ifCond .ne 6, 3) := by decide +kernel
theorem dX11_likes_20 : decode cX11_likes 20 = .ok (.bipush (-2), 2) := by decide +kernel
theorem dX11_likes_22 : decode cX11_likes 22 = .ok (.ireturn, 1) := by decide +kernel
theorem dX11_likes_23 : decode cX11_likes 23 = .ok (.aload_n 0, 1) := by decide +kernel
theorem dX11_likes_24 : decode cX11_likes 24 = .ok (.invokevirtual 182, 3) := by decide +kernel
theorem dX11_likes_27 : decode cX11_likes 27 = .ok (.aload_n 0, 1) := by decide +kernel
theorem dX11_likes_28 : decode cX11_likes 28 = .ok (.iload_n 1, 1) := by decide +kernel
theorem dX11_likes_29 : decode cX11_likes 29 = .ok (.aload_n 0, 1) := by decide +kernel
theorem dX11_likes_30 : decode cX11_likes 30 = .ok (.getfield 73, 3) := by decide +kernel
theorem dX11_likes_33 : decode cX11_likes 33 = .ok (.invokevirtual 205, 3) := by decide +kernel
theorem dX11_likes_36 : decode cX11_likes 36 = .ok (.istore_n 3, 1) := by decide +kernel
theorem dX11_likes_37 : decode cX11_likes 37 = .ok (.iload_n 2, 1) := by decide +kernel
theorem dX11_likes_38 : decode cX11_likes 38 = .ok (.ifCond .ne 7, 3) := by decide +kernel
theorem dX11_likes_41 : decode cX11_likes 41 = .ok (.iload_n 3, 1) := by decide +kernel
theorem dX11_likes_42 : decode cX11_likes 42 = .ok (.goto 13, 3) := by decide +kernel
theorem dX11_likes_45 : decode cX11_likes 45 = .ok (.aload_n 0, 1) := by decide +kernel
theorem dX11_likes_46 : decode cX11_likes 46 = .ok (.iload_n 1, 1) := by decide +kernel
theorem dX11_likes_47 : decode cX11_likes 47 = .ok (.iload_n 3, 1) := by decide +kernel
theorem dX11_likes_48 : decode cX11_likes 48 = .ok (.aload_n 0, 1) := by decide +kernel
theorem dX11_likes_49 : decode cX11_likes 49 = .ok (.getfield 73, 3) := by decide +kernel
theorem dX11_likes_52 : decode cX11_likes 52 = .ok (.invokevirtual 208, 3) := by decide +kernel
theorem dX11_likes_55 : decode cX11_likes 55 = .ok (.ireturn, 1) := by decide +kernel
theorem dX11_missingBy_0 : decode cX11_missingBy 0 = .ok (.aload_n 0, 1) := by decide +kernel
theorem dX11_missingBy_1 : decode cX11_missingBy 1 = .ok (.iconst 1, 1) := by decide +kernel
theorem dX11_missingBy_2 : decode cX11_missingBy 2 = .ok (.aload_n 0, 1) := by decide +kernel
theorem dX11_missingBy_3 : decode cX11_missingBy 3 = .ok (.getfield 107, 3) := by decide +kernel
theorem dX11_missingBy_6 : decode cX11_missingBy 6 = .ok (.ishl, 1) := by decide +kernel
theorem dX11_missingBy_7 : decode cX11_missingBy 7 = .ok (.iconst 1, 1) := by decide +kernel
theorem dX11_missingBy_8 : decode cX11_missingBy 8 = .ok (.isub, 1) := by decide +kernel
theorem dX11_missingBy_9 : decode cX11_missingBy 9 = .ok (.aload_n 1, 1) := by decide +kernel
theorem dX11_missingBy_10 : decode cX11_missingBy 10 = .ok (.invokevirtual 201, 3) := by decide +kernel
theorem dX11_missingBy_13 : decode cX11_missingBy 13 = .ok (.aload_n 0, 1) := by decide +kernel
theorem dX11_missingBy_14 : decode cX11_missingBy 14 = .ok (.invokevirtual 198, 3) := by decide +kernel
theorem dX11_missingBy_17 : decode cX11_missingBy 17 = .ok (.isub, 1) := by decide +kernel
theorem dX11_missingBy_18 : decode cX11_missingBy 18 = .ok (.istore_n 2, 1) := by decide +kernel
theorem dX11_missingBy_19 : decode cX11_missingBy 19 = .ok (.iconst 0, 1) := by decide +kernel
theorem dX11_missingBy_20 : decode cX11_missingBy 20 = .ok (.istore_n 3, 1) := by decide +kernel
theorem dX11_missingBy_21 : decode cX11_missingBy 21 = .ok (.iload_n 3, 1) := by decide +kernel
theorem dX11_missingBy_22 : decode cX11_missingBy 22 = .ok (.aload_n 0, 1) := by decide +kernel
theorem dX11_missingBy_23 : decode cX11_missingBy 23 = .ok (.getfield 114, 3) := by decide +kernel
theorem dX11_missingBy_26 : decode cX11_missingBy 26 = .ok (.if_icmp .ge 36, 3) := by decide +kernel
theorem dX11_missingBy_29 : decode cX11_missingBy 29 = .ok (.aload_n 0, 1) := by decide +kernel
theorem dX11_missingBy_30 : decode cX11_missingBy 30 = .ok (.getfield 79, 3) := by decide +kernel
theorem dX11_missingBy_33 : decode cX11_missingBy 33 = .ok (.iload_n 3, 1) := by decide +kernel
theorem dX11_missingBy_34 : decode cX11_missingBy 34 = .ok (.aload_n 0, 1) := by decide +kernel
theorem dX11_missingBy_35 : decode cX11_missingBy 35 = .ok (.iload_n 3, 1) := by decide +kernel
theorem dX11_missingBy_36 : decode cX11_missingBy 36 = .ok (.aload_n 1, 1) := by decide +kernel
theorem dX11_missingBy_37 : decode cX11_missingBy 37 = .ok (.invokevirtual 205, 3) := by decide +kernel
theorem dX11_missingBy_40 : decode cX11_missingBy 40 = .ok (.iastore, 1) := by decide +kernel
theorem dX11_missingBy_41 : decode cX11_missingBy 41 = .ok (.iload_n 2, 1) := by decide +kernel
theorem dX11_missingBy_42 : decode cX11_missingBy 42 = .ok (.aload_n 0, 1) := by decide +kernel
theorem dX11_missingBy_43 : decode cX11_missingBy 43 = .ok (.iload_n 3, 1) := by decide +kernel
theorem dX11_missingBy_44 : decode cX11_missingBy 44 = .ok (.aload_n 0, 1) := by decide +kernel
theorem dX11_missingBy_45 : decode cX11_missingBy 45 = .ok (.getfield 79, 3) := by decide +kernel
theorem dX11_missingBy_48 : decode cX11_missingBy 48 = .ok (.iload_n 3, 1) := by decide +kernel
theorem dX11_missingBy_49 : decode cX11_missingBy 49 = .ok (.iaload, 1) := by decide +kernel
theorem dX11_missingBy_50 : decode cX11_missingBy 50 = .ok (.aload_n 1, 1) := by decide +kernel
theorem dX11_missingBy_51 : decode cX11_missingBy 51 = .ok (.invokevirtual 208, 3) := by decide +kernel
theorem dX11_missingBy_54 : decode cX11_missingBy 54 = .ok (.iadd, 1) := by decide +kernel
theorem dX11_missingBy_55 : decode cX11_missingBy 55 = .ok (.istore_n 2, 1) := by decide +kernel
theorem dX11_missingBy_56 : decode cX11_missingBy 56 = .ok (.iinc 3 1, 3) := by decide +kernel
theorem dX11_missingBy_59 : decode cX11_missingBy 59 = .ok (.goto (-38), 3) := by decide +kernel
theorem dX11_missingBy_62 : decode cX11_missingBy 62 = .ok (.iload_n 2, 1) := by decide +kernel
theorem dX11_missingBy_63 : decode cX11_missingBy 63 = .ok (.ireturn, 1) := by decide +kernel
theorem dX11_missing_0 : decode cX11_missing 0 = .ok (.aload_n 0, 1) := by decide +kernel
theorem dX11_missing_1 : decode cX11_missing 1 = .ok (.invokevirtual 182, 3) := by decide +kernel
theorem dX11_missing_4 : decode cX11_missing 4 = .ok (.aload_n 0, 1) := by decide +kernel
theorem dX11_missing_5 : decode cX11_missing 5 = .ok (.invokevirtual 195, 3) := by decide +kernel
theorem dX11_missing_8 : decode cX11_missing 8 = .ok (.aload_n 0, 1) := by decide +kernel
theorem dX11_missing_9 : decode cX11_missing 9 = .ok (.aload_n 0, 1) := by decide +kernel
theorem dX11_missing_10 : decode cX11_missing 10 = .ok (.getfield 73, 3) := by decide +kernel
theorem dX11_missing_13 : decode cX11_missing 13 = .ok (.invokevirtual 212, 3) := by decide +kernel
theorem dX11_missing_16 : decode cX11_missing 16 = .ok (.ireturn, 1) := by decide +kernel
theorem dX11_raise_0 : decode cX11_raise 0 = .ok (.aload_n 0, 1) := by decide +kernel
theorem dX11_raise_1 : decode cX11_raise 1 = .ok (.invokevirtual 195, 3) := by decide +kernel
theorem dX11_raise_4 : decode cX11_raise 4 = .ok (.iconst 0, 1) := by decide +kernel
theorem dX11_raise_5 : decode cX11_raise 5 = .ok (.istore_n 1, 1) := by decide +kernel
theorem dX11_raise_6 : decode cX11_raise 6 = .ok (.iload_n 1, 1) := by decide +kernel
theorem dX11_raise_7 : decode cX11_raise 7 = .ok (.aload_n 0, 1) := by decide +kernel
theorem dX11_raise_8 : decode cX11_raise 8 = .ok (.getfield 107, 3) := by decide +kernel
theorem dX11_raise_11 : decode cX11_raise 11 = .ok (.if_icmp .ge 16, 3) := by decide +kernel
theorem dX11_raise_14 : decode cX11_raise 14 = .ok (.aload_n 0, 1) := by decide +kernel
theorem dX11_raise_15 : decode cX11_raise 15 = .ok (.getfield 76, 3) := by decide +kernel
theorem dX11_raise_18 : decode cX11_raise 18 = .ok (.iload_n 1, 1) := by decide +kernel
theorem dX11_raise_19 : decode cX11_raise 19 = .ok (.iconst 0, 1) := by decide +kernel
theorem dX11_raise_20 : decode cX11_raise 20 = .ok (.iastore, 1) := by decide +kernel
theorem dX11_raise_21 : decode cX11_raise 21 = .ok (.iinc 1 1, 3) := by decide +kernel
theorem dX11_raise_24 : decode cX11_raise 24 = .ok (.goto (-18), 3) := by decide +kernel
theorem dX11_raise_27 : decode cX11_raise 27 = .ok (.aload_n 0, 1) := by decide +kernel
theorem dX11_raise_28 : decode cX11_raise 28 = .ok (.iconst 0, 1) := by decide +kernel
theorem dX11_raise_29 : decode cX11_raise 29 = .ok (.putfield 216, 3) := by decide +kernel
theorem dX11_raise_32 : decode cX11_raise 32 = .ok (.aload_n 0, 1) := by decide +kernel
theorem dX11_raise_33 : decode cX11_raise 33 = .ok (.aload_n 0, 1) := by decide +kernel
theorem dX11_raise_34 : decode cX11_raise 34 = .ok (.getfield 76, 3) := by decide +kernel
theorem dX11_raise_37 : decode cX11_raise 37 = .ok (.invokevirtual 212, 3) := by decide +kernel
theorem dX11_raise_40 : decode cX11_raise 40 = .ok (.istore_n 1, 1) := by decide +kernel
theorem dX11_raise_41 : decode cX11_raise 41 = .ok (.iconst 1, 1) := by decide +kernel
theorem dX11_raise_42 : decode cX11_raise 42 = .ok (.istore_n 2, 1) := by decide +kernel
theorem dX11_raise_43 : decode cX11_raise 43 = .ok (.iload_n 1, 1) := by decide +kernel
theorem dX11_raise_44 : decode cX11_raise 44 = .ok (.ifCond .le 146, 3) := by decide +kernel
theorem dX11_raise_47 : decode cX11_raise 47 = .ok (.iload_n 2, 1) := by decide +kernel
theorem dX11_raise_48 : decode cX11_raise 48 = .ok (.ifCond .eq 142, 3) := by decide +kernel
theorem dX11_raise_51 : decode cX11_raise 51 = .ok (.aload_n 0, 1) := by decide +kernel
theorem dX11_raise_52 : decode cX11_raise 52 = .ok (.getfield 216, 3) := by decide +kernel
theorem dX11_raise_55 : decode cX11_raise 55 = .ok (.sipush 300, 3) := by decide +kernel
theorem dX11_raise_58 : decode cX11_raise 58 = .ok (.if_icmp .ge 132, 3) := by decide +kernel
theorem dX11_raise_61 : decode cX11_raise 61 = .ok (.iconst 0, 1) := by decide +kernel
theorem dX11_raise_62 : decode cX11_raise 62 = .ok (.istore_n 2, 1) := by decide +kernel
theorem dX11_raise_63 : decode cX11_raise 63 = .ok (.iconst 0, 1) := by decide +kernel
theorem dX11_raise_64 : decode cX11_raise 64 = .ok (.istore_n 3, 1) := by decide +kernel
theorem dX11_raise_65 : decode cX11_raise 65 = .ok (.iload_n 3, 1) := by decide +kernel
theorem dX11_raise_66 : decode cX11_raise 66 = .ok (.aload_n 0, 1) := by decide +kernel
theorem dX11_raise_67 : decode cX11_raise 67 = .ok (.getfield 107, 3) := by decide +kernel
theorem dX11_raise_70 : decode cX11_raise 70 = .ok (.if_icmp .ge 82, 3) := by decide +kernel
theorem dX11_raise_73 : decode cX11_raise 73 = .ok (.iconst 0, 1) := by decide +kernel
theorem dX11_raise_74 : decode cX11_raise 74 = .ok (.istore 4, 2) := by decide +kernel
theorem dX11_raise_76 : decode cX11_raise 76 = .ok (.iconst 0, 1) := by decide +kernel
theorem dX11_raise_77 : decode cX11_raise 77 = .ok (.istore 5, 2) := by decide +kernel
theorem dX11_raise_79 : decode cX11_raise 79 = .ok (.iload 5, 2) := by decide +kernel
theorem dX11_raise_81 : decode cX11_raise 81 = .ok (.aload_n 0, 1) := by decide +kernel
theorem dX11_raise_82 : decode cX11_raise 82 = .ok (.getfield 114, 3) := by decide +kernel
theorem dX11_raise_85 : decode cX11_raise 85 = .ok (.if_icmp .ge 25, 3) := by decide +kernel
theorem dX11_raise_88 : decode cX11_raise 88 = .ok (.iload 4, 2) := by decide +kernel
theorem dX11_raise_90 : decode cX11_raise 90 = .ok (.aload_n 0, 1) := by decide +kernel
theorem dX11_raise_91 : decode cX11_raise 91 = .ok (.getfield 79, 3) := by decide +kernel
theorem dX11_raise_94 : decode cX11_raise 94 = .ok (.iload 5, 2) := by decide +kernel
theorem dX11_raise_96 : decode cX11_raise 96 = .ok (.iaload, 1) := by decide +kernel
theorem dX11_raise_97 : decode cX11_raise 97 = .ok (.iload_n 3, 1) := by decide +kernel
theorem dX11_raise_98 : decode cX11_raise 98 = .ok (.ishr, 1) := by decide +kernel
theorem dX11_raise_99 : decode cX11_raise 99 = .ok (.iconst 1, 1) := by decide +kernel
theorem dX11_raise_100 : decode cX11_raise 100 = .ok (.iand, 1) := by decide +kernel
theorem dX11_raise_101 : decode cX11_raise 101 = .ok (.iadd, 1) := by decide +kernel
theorem dX11_raise_102 : decode cX11_raise 102 = .ok (.istore 4, 2) := by decide +kernel
theorem dX11_raise_104 : decode cX11_raise 104 = .ok (.iinc 5 1, 3) := by decide +kernel
theorem dX11_raise_107 : decode cX11_raise 107 = .ok (.goto (-28), 3) := by decide +kernel
theorem dX11_raise_110 : decode cX11_raise 110 = .ok (.aload_n 0, 1) := by decide +kernel
theorem dX11_raise_111 : decode cX11_raise 111 = .ok (.getfield 76, 3) := by decide +kernel
theorem dX11_raise_114 : decode cX11_raise 114 = .ok (.iload_n 3, 1) := by decide +kernel
theorem dX11_raise_115 : decode cX11_raise 115 = .ok (.dup2, 1) := by decide +kernel
theorem dX11_raise_116 : decode cX11_raise 116 = .ok (.iaload, 1) := by decide +kernel
theorem dX11_raise_117 : decode cX11_raise 117 = .ok (.iload 4, 2) := by decide +kernel
theorem dX11_raise_119 : decode cX11_raise 119 = .ok (.iconst 1, 1) := by decide +kernel
theorem dX11_raise_120 : decode cX11_raise 120 = .ok (.if_icmp .le 7, 3) := by decide +kernel
theorem dX11_raise_123 : decode cX11_raise 123 = .ok (.iconst 1, 1) := by decide +kernel
theorem dX11_raise_124 : decode cX11_raise 124 = .ok (.goto 4, 3) := by decide +kernel
theorem dX11_raise_127 : decode cX11_raise 127 = .ok (.iconst 0, 1) := by decide +kernel
theorem dX11_raise_128 : decode cX11_raise 128 = .ok (.iadd, 1) := by decide +kernel
theorem dX11_raise_129 : decode cX11_raise 129 = .ok (.iastore, 1) := by decide +kernel
theorem dX11_raise_130 : decode cX11_raise 130 = .ok (.iload_n 2, 1) := by decide +kernel
theorem dX11_raise_131 : decode cX11_raise 131 = .ok (.ifCond .ne 9, 3) := by decide +kernel
theorem dX11_raise_134 : decode cX11_raise 134 = .ok (.iload 4, 2) := by decide +kernel
theorem dX11_raise_136 : decode cX11_raise 136 = .ok (.iconst 1, 1) := by decide +kernel
theorem dX11_raise_137 : decode cX11_raise 137 = .ok (.if_icmp .le 7, 3) := by decide +kernel
theorem dX11_raise_140 : decode cX11_raise 140 = .ok (.iconst 1, 1) := by decide +kernel
theorem dX11_raise_141 : decode cX11_raise 141 = .ok (.goto 4, 3) := by decide +kernel
theorem dX11_raise_144 : decode cX11_raise 144 = .ok (.iconst 0, 1) := by decide +kernel
theorem dX11_raise_145 : decode cX11_raise 145 = .ok (.istore_n 2, 1) := by decide +kernel
theorem dX11_raise_146 : decode cX11_raise 146 = .ok (.iinc 3 1, 3) := by decide +kernel
theorem dX11_raise_149 : decode cX11_raise 149 = .ok (.goto (-84), 3) := by decide +kernel
theorem dX11_raise_152 : decode cX11_raise 152 = .ok (.aload_n 0, 1) := by decide +kernel
theorem dX11_raise_153 : decode cX11_raise 153 = .ok (.dup, 1) := by decide +kernel
theorem dX11_raise_154 : decode cX11_raise 154 = .ok (.getfield 216, 3) := by decide +kernel
theorem dX11_raise_157 : decode cX11_raise 157 = .ok (.iload_n 2, 1) := by decide +kernel
theorem dX11_raise_158 : decode cX11_raise 158 = .ok (.ifCond .eq 7, 3) := by decide +kernel
theorem dX11_raise_161 : decode cX11_raise 161 = .ok (.iconst 1, 1) := by decide +kernel
theorem dX11_raise_162 : decode cX11_raise 162 = .ok (.goto 4, 3) := by decide +kernel
theorem dX11_raise_165 : decode cX11_raise 165 = .ok (.iconst 0, 1) := by decide +kernel
theorem dX11_raise_166 : decode cX11_raise 166 = .ok (.iadd, 1) := by decide +kernel
theorem dX11_raise_167 : decode cX11_raise 167 = .ok (.putfield 216, 3) := by decide +kernel
theorem dX11_raise_170 : decode cX11_raise 170 = .ok (.iload_n 2, 1) := by decide +kernel
theorem dX11_raise_171 : decode cX11_raise 171 = .ok (.ifCond .eq 14, 3) := by decide +kernel
theorem dX11_raise_174 : decode cX11_raise 174 = .ok (.aload_n 0, 1) := by decide +kernel
theorem dX11_raise_175 : decode cX11_raise 175 = .ok (.aload_n 0, 1) := by decide +kernel
theorem dX11_raise_176 : decode cX11_raise 176 = .ok (.getfield 76, 3) := by decide +kernel
theorem dX11_raise_179 : decode cX11_raise 179 = .ok (.invokevirtual 212, 3) := by decide +kernel
theorem dX11_raise_182 : decode cX11_raise 182 = .ok (.goto 4, 3) := by decide +kernel
theorem dX11_raise_185 : decode cX11_raise 185 = .ok (.iload_n 1, 1) := by decide +kernel
theorem dX11_raise_186 : decode cX11_raise 186 = .ok (.istore_n 1, 1) := by decide +kernel
theorem dX11_raise_187 : decode cX11_raise 187 = .ok (.goto (-144), 3) := by decide +kernel
theorem dX11_raise_190 : decode cX11_raise 190 = .ok (.iload_n 1, 1) := by decide +kernel
theorem dX11_raise_191 : decode cX11_raise 191 = .ok (.ireturn, 1) := by decide +kernel
theorem dX11_raised_0 : decode cX11_raised 0 = .ok (.iload_n 1, 1) := by decide +kernel
theorem dX11_raised_1 : decode cX11_raised 1 = .ok (.i2l, 1) := by decide +kernel
theorem dX11_raised_2 : decode cX11_raised 2 = .ok (.ldc2_w 219, 3) := by decide +kernel
theorem dX11_raised_5 : decode cX11_raised 5 = .ok (.ldc2_w 221, 3) := by decide +kernel
theorem dX11_raised_8 : decode cX11_raised 8 = .ok (.invokestatic 110, 3) := by decide +kernel
theorem dX11_raised_11 : decode cX11_raised 11 = .ok (.ifCond .eq 16, 3) := by decide +kernel
theorem dX11_raised_14 : decode cX11_raised 14 = .ok (.aload_n 0, 1) := by decide +kernel
theorem dX11_raised_15 : decode cX11_raised 15 = .ok (.iload_n 1, 1) := by decide +kernel
theorem dX11_raised_16 : decode cX11_raised 16 = .ok (.bipush 10, 2) := by decide +kernel
theorem dX11_raised_18 : decode cX11_raised 18 = .ok (.isub, 1) := by decide +kernel
theorem dX11_raised_19 : decode cX11_raised 19 = .ok (.invokevirtual 169, 3) := by decide +kernel
theorem dX11_raised_22 : decode cX11_raised 22 = .ok (.ifCond .ne 5, 3) := by decide +kernel
theorem dX11_raised_25 : decode cX11_raised 25 = .ok (.iconst (-1), 1) := by decide +kernel
theorem dX11_raised_26 : decode cX11_raised 26 = .ok (.ireturn, 1) := by decide +kernel
theorem dX11_raised_27 : decode cX11_raised 27 = .ok (.iload_n 1, 1) := by decide +kernel
theorem dX11_raised_28 : decode cX11_raised 28 = .ok (.i2l, 1) := by decide +kernel
theorem dX11_raised_29 : decode cX11_raised 29 = .ok (.lconst 0, 1) := by decide +kernel
theorem dX11_raised_30 : decode cX11_raised 30 = .ok (.lconst 1, 1) := by decide +kernel
theorem dX11_raised_31 : decode cX11_raised 31 = .ok (.invokestatic 110, 3) := by decide +kernel
theorem dX11_raised_34 : decode cX11_raised 34 = .ok (.ifCond .ne 20, 3) := by decide +kernel
theorem dX11_raised_37 : decode cX11_raised 37 = .ok (.iload_n 1, 1) := by decide +kernel
theorem dX11_raised_38 : decode cX11_raised 38 = .ok (.i2l, 1) := by decide +kernel
theorem dX11_raised_39 : decode cX11_raised 39 = .ok (.ldc2_w 219, 3) := by decide +kernel
theorem dX11_raised_42 : decode cX11_raised 42 = .ok (.ldc2_w 221, 3) := by decide +kernel
theorem dX11_raised_45 : decode cX11_raised 45 = .ok (.invokestatic 110, 3) := by decide +kernel
theorem dX11_raised_48 : decode cX11_raised 48 = .ok (.ifCond .ne 6, 3) := by decide +kernel
theorem dX11_raised_51 : decode cX11_raised 51 = .ok (.bipush (-2), 2) := by decide +kernel
theorem dX11_raised_53 : decode cX11_raised 53 = .ok (.ireturn, 1) := by decide +kernel
theorem dX11_raised_54 : decode cX11_raised 54 = .ok (.aload_n 0, 1) := by decide +kernel
theorem dX11_raised_55 : decode cX11_raised 55 = .ok (.invokevirtual 182, 3) := by decide +kernel
theorem dX11_raised_58 : decode cX11_raised 58 = .ok (.aload_n 0, 1) := by decide +kernel
theorem dX11_raised_59 : decode cX11_raised 59 = .ok (.invokevirtual 223, 3) := by decide +kernel
theorem dX11_raised_62 : decode cX11_raised 62 = .ok (.istore_n 2, 1) := by decide +kernel
theorem dX11_raised_63 : decode cX11_raised 63 = .ok (.iload_n 1, 1) := by decide +kernel
theorem dX11_raised_64 : decode cX11_raised 64 = .ok (.ifCond .ne 10, 3) := by decide +kernel
theorem dX11_raised_67 : decode cX11_raised 67 = .ok (.aload_n 0, 1) := by decide +kernel
theorem dX11_raised_68 : decode cX11_raised 68 = .ok (.getfield 216, 3) := by decide +kernel
theorem dX11_raised_71 : decode cX11_raised 71 = .ok (.goto 21, 3) := by decide +kernel
theorem dX11_raised_74 : decode cX11_raised 74 = .ok (.iload_n 1, 1) := by decide +kernel
theorem dX11_raised_75 : decode cX11_raised 75 = .ok (.iconst 1, 1) := by decide +kernel
theorem dX11_raised_76 : decode cX11_raised 76 = .ok (.if_icmp .ne 7, 3) := by decide +kernel
theorem dX11_raised_79 : decode cX11_raised 79 = .ok (.iload_n 2, 1) := by decide +kernel
theorem dX11_raised_80 : decode cX11_raised 80 = .ok (.goto 12, 3) := by decide +kernel
theorem dX11_raised_83 : decode cX11_raised 83 = .ok (.aload_n 0, 1) := by decide +kernel
theorem dX11_raised_84 : decode cX11_raised 84 = .ok (.getfield 76, 3) := by decide +kernel
theorem dX11_raised_87 : decode cX11_raised 87 = .ok (.iload_n 1, 1) := by decide +kernel
theorem dX11_raised_88 : decode cX11_raised 88 = .ok (.bipush 10, 2) := by decide +kernel
theorem dX11_raised_90 : decode cX11_raised 90 = .ok (.isub, 1) := by decide +kernel
theorem dX11_raised_91 : decode cX11_raised 91 = .ok (.iaload, 1) := by decide +kernel
theorem dX11_raised_92 : decode cX11_raised 92 = .ok (.ireturn, 1) := by decide +kernel
theorem dX11_exchange_0 : decode cX11_exchange 0 = .ok (.aload_n 0, 1) := by decide +kernel
theorem dX11_exchange_1 : decode cX11_exchange 1 = .ok (.getfield 19, 3) := by decide +kernel
theorem dX11_exchange_4 : decode cX11_exchange 4 = .ok (.iload_n 1, 1) := by decide +kernel
theorem dX11_exchange_5 : decode cX11_exchange 5 = .ok (.iaload, 1) := by decide +kernel
theorem dX11_exchange_6 : decode cX11_exchange 6 = .ok (.istore_n 3, 1) := by decide +kernel
theorem dX11_exchange_7 : decode cX11_exchange 7 = .ok (.aload_n 0, 1) := by decide +kernel
theorem dX11_exchange_8 : decode cX11_exchange 8 = .ok (.getfield 19, 3) := by decide +kernel
theorem dX11_exchange_11 : decode cX11_exchange 11 = .ok (.iload_n 1, 1) := by decide +kernel
theorem dX11_exchange_12 : decode cX11_exchange 12 = .ok (.aload_n 0, 1) := by decide +kernel
theorem dX11_exchange_13 : decode cX11_exchange 13 = .ok (.getfield 19, 3) := by decide +kernel
theorem dX11_exchange_16 : decode cX11_exchange 16 = .ok (.iload_n 2, 1) := by decide +kernel
theorem dX11_exchange_17 : decode cX11_exchange 17 = .ok (.iaload, 1) := by decide +kernel
theorem dX11_exchange_18 : decode cX11_exchange 18 = .ok (.iastore, 1) := by decide +kernel
theorem dX11_exchange_19 : decode cX11_exchange 19 = .ok (.aload_n 0, 1) := by decide +kernel
theorem dX11_exchange_20 : decode cX11_exchange 20 = .ok (.getfield 19, 3) := by decide +kernel
theorem dX11_exchange_23 : decode cX11_exchange 23 = .ok (.iload_n 2, 1) := by decide +kernel
theorem dX11_exchange_24 : decode cX11_exchange 24 = .ok (.iload_n 3, 1) := by decide +kernel
theorem dX11_exchange_25 : decode cX11_exchange 25 = .ok (.iastore, 1) := by decide +kernel
theorem dX11_exchange_26 : decode cX11_exchange 26 = .ok (.return_, 1) := by decide +kernel
theorem dX11_nextOrder_0 : decode cX11_nextOrder 0 = .ok (.aload_n 0, 1) := by decide +kernel
theorem dX11_nextOrder_1 : decode cX11_nextOrder 1 = .ok (.getfield 107, 3) := by decide +kernel
theorem dX11_nextOrder_4 : decode cX11_nextOrder 4 = .ok (.iconst 2, 1) := by decide +kernel
theorem dX11_nextOrder_5 : decode cX11_nextOrder 5 = .ok (.isub, 1) := by decide +kernel
theorem dX11_nextOrder_6 : decode cX11_nextOrder 6 = .ok (.istore_n 1, 1) := by decide +kernel
theorem dX11_nextOrder_7 : decode cX11_nextOrder 7 = .ok (.iload_n 1, 1) := by decide +kernel
theorem dX11_nextOrder_8 : decode cX11_nextOrder 8 = .ok (.ifCond .lt 26, 3) := by decide +kernel
theorem dX11_nextOrder_11 : decode cX11_nextOrder 11 = .ok (.aload_n 0, 1) := by decide +kernel
theorem dX11_nextOrder_12 : decode cX11_nextOrder 12 = .ok (.getfield 19, 3) := by decide +kernel
theorem dX11_nextOrder_15 : decode cX11_nextOrder 15 = .ok (.iload_n 1, 1) := by decide +kernel
theorem dX11_nextOrder_16 : decode cX11_nextOrder 16 = .ok (.iaload, 1) := by decide +kernel
theorem dX11_nextOrder_17 : decode cX11_nextOrder 17 = .ok (.aload_n 0, 1) := by decide +kernel
theorem dX11_nextOrder_18 : decode cX11_nextOrder 18 = .ok (.getfield 19, 3) := by decide +kernel
theorem dX11_nextOrder_21 : decode cX11_nextOrder 21 = .ok (.iload_n 1, 1) := by decide +kernel
theorem dX11_nextOrder_22 : decode cX11_nextOrder 22 = .ok (.iconst 1, 1) := by decide +kernel
theorem dX11_nextOrder_23 : decode cX11_nextOrder 23 = .ok (.iadd, 1) := by decide +kernel
theorem dX11_nextOrder_24 : decode cX11_nextOrder 24 = .ok (.iaload, 1) := by decide +kernel
theorem dX11_nextOrder_25 : decode cX11_nextOrder 25 = .ok (.if_icmp .le 9, 3) := by decide +kernel
theorem dX11_nextOrder_28 : decode cX11_nextOrder 28 = .ok (.iinc 1 (-1), 3) := by decide +kernel
theorem dX11_nextOrder_31 : decode cX11_nextOrder 31 = .ok (.goto (-24), 3) := by decide +kernel
theorem dX11_nextOrder_34 : decode cX11_nextOrder 34 = .ok (.iload_n 1, 1) := by decide +kernel
theorem dX11_nextOrder_35 : decode cX11_nextOrder 35 = .ok (.ifCond .ge 5, 3) := by decide +kernel
theorem dX11_nextOrder_38 : decode cX11_nextOrder 38 = .ok (.iconst 0, 1) := by decide +kernel
theorem dX11_nextOrder_39 : decode cX11_nextOrder 39 = .ok (.ireturn, 1) := by decide +kernel
theorem dX11_nextOrder_40 : decode cX11_nextOrder 40 = .ok (.aload_n 0, 1) := by decide +kernel
theorem dX11_nextOrder_41 : decode cX11_nextOrder 41 = .ok (.getfield 107, 3) := by decide +kernel
theorem dX11_nextOrder_44 : decode cX11_nextOrder 44 = .ok (.iconst 1, 1) := by decide +kernel
theorem dX11_nextOrder_45 : decode cX11_nextOrder 45 = .ok (.isub, 1) := by decide +kernel
theorem dX11_nextOrder_46 : decode cX11_nextOrder 46 = .ok (.istore_n 2, 1) := by decide +kernel
theorem dX11_nextOrder_47 : decode cX11_nextOrder 47 = .ok (.aload_n 0, 1) := by decide +kernel
theorem dX11_nextOrder_48 : decode cX11_nextOrder 48 = .ok (.getfield 19, 3) := by decide +kernel
theorem dX11_nextOrder_51 : decode cX11_nextOrder 51 = .ok (.iload_n 2, 1) := by decide +kernel
theorem dX11_nextOrder_52 : decode cX11_nextOrder 52 = .ok (.iaload, 1) := by decide +kernel
theorem dX11_nextOrder_53 : decode cX11_nextOrder 53 = .ok (.aload_n 0, 1) := by decide +kernel
theorem dX11_nextOrder_54 : decode cX11_nextOrder 54 = .ok (.getfield 19, 3) := by decide +kernel
theorem dX11_nextOrder_57 : decode cX11_nextOrder 57 = .ok (.iload_n 1, 1) := by decide +kernel
theorem dX11_nextOrder_58 : decode cX11_nextOrder 58 = .ok (.iaload, 1) := by decide +kernel
theorem dX11_nextOrder_59 : decode cX11_nextOrder 59 = .ok (.if_icmp .ge 9, 3) := by decide +kernel
theorem dX11_nextOrder_62 : decode cX11_nextOrder 62 = .ok (.iinc 2 (-1), 3) := by decide +kernel
theorem dX11_nextOrder_65 : decode cX11_nextOrder 65 = .ok (.goto (-18), 3) := by decide +kernel
theorem dX11_nextOrder_68 : decode cX11_nextOrder 68 = .ok (.aload_n 0, 1) := by decide +kernel
theorem dX11_nextOrder_69 : decode cX11_nextOrder 69 = .ok (.iload_n 1, 1) := by decide +kernel
theorem dX11_nextOrder_70 : decode cX11_nextOrder 70 = .ok (.iload_n 2, 1) := by decide +kernel
theorem dX11_nextOrder_71 : decode cX11_nextOrder 71 = .ok (.invokevirtual 226, 3) := by decide +kernel
theorem dX11_nextOrder_74 : decode cX11_nextOrder 74 = .ok (.iload_n 1, 1) := by decide +kernel
theorem dX11_nextOrder_75 : decode cX11_nextOrder 75 = .ok (.iconst 1, 1) := by decide +kernel
theorem dX11_nextOrder_76 : decode cX11_nextOrder 76 = .ok (.iadd, 1) := by decide +kernel
theorem dX11_nextOrder_77 : decode cX11_nextOrder 77 = .ok (.istore_n 3, 1) := by decide +kernel
theorem dX11_nextOrder_78 : decode cX11_nextOrder 78 = .ok (.iload_n 3, 1) := by decide +kernel
theorem dX11_nextOrder_79 : decode cX11_nextOrder 79 = .ok (.aload_n 0, 1) := by decide +kernel
theorem dX11_nextOrder_80 : decode cX11_nextOrder 80 = .ok (.getfield 107, 3) := by decide +kernel
theorem dX11_nextOrder_83 : decode cX11_nextOrder 83 = .ok (.iload_n 1, 1) := by decide +kernel
theorem dX11_nextOrder_84 : decode cX11_nextOrder 84 = .ok (.iadd, 1) := by decide +kernel
theorem dX11_nextOrder_85 : decode cX11_nextOrder 85 = .ok (.iload_n 3, 1) := by decide +kernel
theorem dX11_nextOrder_86 : decode cX11_nextOrder 86 = .ok (.isub, 1) := by decide +kernel
theorem dX11_nextOrder_87 : decode cX11_nextOrder 87 = .ok (.if_icmp .ge 22, 3) := by decide +kernel
theorem dX11_nextOrder_90 : decode cX11_nextOrder 90 = .ok (.aload_n 0, 1) := by decide +kernel
theorem dX11_nextOrder_91 : decode cX11_nextOrder 91 = .ok (.iload_n 3, 1) := by decide +kernel
theorem dX11_nextOrder_92 : decode cX11_nextOrder 92 = .ok (.aload_n 0, 1) := by decide +kernel
theorem dX11_nextOrder_93 : decode cX11_nextOrder 93 = .ok (.getfield 107, 3) := by decide +kernel
theorem dX11_nextOrder_96 : decode cX11_nextOrder 96 = .ok (.iload_n 1, 1) := by decide +kernel
theorem dX11_nextOrder_97 : decode cX11_nextOrder 97 = .ok (.iadd, 1) := by decide +kernel
theorem dX11_nextOrder_98 : decode cX11_nextOrder 98 = .ok (.iload_n 3, 1) := by decide +kernel
theorem dX11_nextOrder_99 : decode cX11_nextOrder 99 = .ok (.isub, 1) := by decide +kernel
theorem dX11_nextOrder_100 : decode cX11_nextOrder 100 = .ok (.invokevirtual 226, 3) := by decide +kernel
theorem dX11_nextOrder_103 : decode cX11_nextOrder 103 = .ok (.iinc 3 1, 3) := by decide +kernel
theorem dX11_nextOrder_106 : decode cX11_nextOrder 106 = .ok (.goto (-28), 3) := by decide +kernel
theorem dX11_nextOrder_109 : decode cX11_nextOrder 109 = .ok (.iconst 1, 1) := by decide +kernel
theorem dX11_nextOrder_110 : decode cX11_nextOrder 110 = .ok (.ireturn, 1) := by decide +kernel
theorem dX11_worthOfAll_0 : decode cX11_worthOfAll 0 = .ok (.iconst 0, 1) := by decide +kernel
theorem dX11_worthOfAll_1 : decode cX11_worthOfAll 1 = .ok (.istore_n 1, 1) := by decide +kernel
theorem dX11_worthOfAll_2 : decode cX11_worthOfAll 2 = .ok (.iconst 0, 1) := by decide +kernel
theorem dX11_worthOfAll_3 : decode cX11_worthOfAll 3 = .ok (.istore_n 2, 1) := by decide +kernel
theorem dX11_worthOfAll_4 : decode cX11_worthOfAll 4 = .ok (.iload_n 2, 1) := by decide +kernel
theorem dX11_worthOfAll_5 : decode cX11_worthOfAll 5 = .ok (.aload_n 0, 1) := by decide +kernel
theorem dX11_worthOfAll_6 : decode cX11_worthOfAll 6 = .ok (.getfield 114, 3) := by decide +kernel
theorem dX11_worthOfAll_9 : decode cX11_worthOfAll 9 = .ok (.if_icmp .ge 17, 3) := by decide +kernel
theorem dX11_worthOfAll_12 : decode cX11_worthOfAll 12 = .ok (.iload_n 1, 1) := by decide +kernel
theorem dX11_worthOfAll_13 : decode cX11_worthOfAll 13 = .ok (.aload_n 0, 1) := by decide +kernel
theorem dX11_worthOfAll_14 : decode cX11_worthOfAll 14 = .ok (.iload_n 2, 1) := by decide +kernel
theorem dX11_worthOfAll_15 : decode cX11_worthOfAll 15 = .ok (.invokevirtual 191, 3) := by decide +kernel
theorem dX11_worthOfAll_18 : decode cX11_worthOfAll 18 = .ok (.iadd, 1) := by decide +kernel
theorem dX11_worthOfAll_19 : decode cX11_worthOfAll 19 = .ok (.istore_n 1, 1) := by decide +kernel
theorem dX11_worthOfAll_20 : decode cX11_worthOfAll 20 = .ok (.iinc 2 1, 3) := by decide +kernel
theorem dX11_worthOfAll_23 : decode cX11_worthOfAll 23 = .ok (.goto (-19), 3) := by decide +kernel
theorem dX11_worthOfAll_26 : decode cX11_worthOfAll 26 = .ok (.iload_n 1, 1) := by decide +kernel
theorem dX11_worthOfAll_27 : decode cX11_worthOfAll 27 = .ok (.ireturn, 1) := by decide +kernel
theorem dX11_findOrders_0 : decode cX11_findOrders 0 = .ok (.aload_n 0, 1) := by decide +kernel
theorem dX11_findOrders_1 : decode cX11_findOrders 1 = .ok (.invokevirtual 182, 3) := by decide +kernel
theorem dX11_findOrders_4 : decode cX11_findOrders 4 = .ok (.iconst 0, 1) := by decide +kernel
theorem dX11_findOrders_5 : decode cX11_findOrders 5 = .ok (.istore_n 1, 1) := by decide +kernel
theorem dX11_findOrders_6 : decode cX11_findOrders 6 = .ok (.iload_n 1, 1) := by decide +kernel
theorem dX11_findOrders_7 : decode cX11_findOrders 7 = .ok (.aload_n 0, 1) := by decide +kernel
theorem dX11_findOrders_8 : decode cX11_findOrders 8 = .ok (.getfield 107, 3) := by decide +kernel
theorem dX11_findOrders_11 : decode cX11_findOrders 11 = .ok (.if_icmp .ge 28, 3) := by decide +kernel
theorem dX11_findOrders_14 : decode cX11_findOrders 14 = .ok (.aload_n 0, 1) := by decide +kernel
theorem dX11_findOrders_15 : decode cX11_findOrders 15 = .ok (.getfield 82, 3) := by decide +kernel
theorem dX11_findOrders_18 : decode cX11_findOrders 18 = .ok (.iload_n 1, 1) := by decide +kernel
theorem dX11_findOrders_19 : decode cX11_findOrders 19 = .ok (.aload_n 0, 1) := by decide +kernel
theorem dX11_findOrders_20 : decode cX11_findOrders 20 = .ok (.getfield 19, 3) := by decide +kernel
theorem dX11_findOrders_23 : decode cX11_findOrders 23 = .ok (.iload_n 1, 1) := by decide +kernel
theorem dX11_findOrders_24 : decode cX11_findOrders 24 = .ok (.iaload, 1) := by decide +kernel
theorem dX11_findOrders_25 : decode cX11_findOrders 25 = .ok (.iastore, 1) := by decide +kernel
theorem dX11_findOrders_26 : decode cX11_findOrders 26 = .ok (.aload_n 0, 1) := by decide +kernel
theorem dX11_findOrders_27 : decode cX11_findOrders 27 = .ok (.getfield 19, 3) := by decide +kernel
theorem dX11_findOrders_30 : decode cX11_findOrders 30 = .ok (.iload_n 1, 1) := by decide +kernel
theorem dX11_findOrders_31 : decode cX11_findOrders 31 = .ok (.iload_n 1, 1) := by decide +kernel
theorem dX11_findOrders_32 : decode cX11_findOrders 32 = .ok (.iastore, 1) := by decide +kernel
theorem dX11_findOrders_33 : decode cX11_findOrders 33 = .ok (.iinc 1 1, 3) := by decide +kernel
theorem dX11_findOrders_36 : decode cX11_findOrders 36 = .ok (.goto (-30), 3) := by decide +kernel
theorem dX11_findOrders_39 : decode cX11_findOrders 39 = .ok (.aload_n 0, 1) := by decide +kernel
theorem dX11_findOrders_40 : decode cX11_findOrders 40 = .ok (.iconst (-1), 1) := by decide +kernel
theorem dX11_findOrders_41 : decode cX11_findOrders 41 = .ok (.putfield 230, 3) := by decide +kernel
theorem dX11_findOrders_44 : decode cX11_findOrders 44 = .ok (.aload_n 0, 1) := by decide +kernel
theorem dX11_findOrders_45 : decode cX11_findOrders 45 = .ok (.ldc 233, 2) := by decide +kernel
theorem dX11_findOrders_47 : decode cX11_findOrders 47 = .ok (.putfield 234, 3) := by decide +kernel
theorem dX11_findOrders_50 : decode cX11_findOrders 50 = .ok (.iconst 1, 1) := by decide +kernel
theorem dX11_findOrders_51 : decode cX11_findOrders 51 = .ok (.istore_n 1, 1) := by decide +kernel
theorem dX11_findOrders_52 : decode cX11_findOrders 52 = .ok (.iload_n 1, 1) := by decide +kernel
theorem dX11_findOrders_53 : decode cX11_findOrders 53 = .ok (.ifCond .eq 138, 3) := by decide +kernel
theorem dX11_findOrders_56 : decode cX11_findOrders 56 = .ok (.aload_n 0, 1) := by decide +kernel
theorem dX11_findOrders_57 : decode cX11_findOrders 57 = .ok (.aload_n 0, 1) := by decide +kernel
theorem dX11_findOrders_58 : decode cX11_findOrders 58 = .ok (.getfield 103, 3) := by decide +kernel
theorem dX11_findOrders_61 : decode cX11_findOrders 61 = .ok (.invokevirtual 185, 3) := by decide +kernel
theorem dX11_findOrders_64 : decode cX11_findOrders 64 = .ok (.aload_n 0, 1) := by decide +kernel
theorem dX11_findOrders_65 : decode cX11_findOrders 65 = .ok (.invokevirtual 237, 3) := by decide +kernel
theorem dX11_findOrders_68 : decode cX11_findOrders 68 = .ok (.istore_n 2, 1) := by decide +kernel
theorem dX11_findOrders_69 : decode cX11_findOrders 69 = .ok (.iconst 0, 1) := by decide +kernel
theorem dX11_findOrders_70 : decode cX11_findOrders 70 = .ok (.istore_n 3, 1) := by decide +kernel
theorem dX11_findOrders_71 : decode cX11_findOrders 71 = .ok (.iload_n 3, 1) := by decide +kernel
theorem dX11_findOrders_72 : decode cX11_findOrders 72 = .ok (.aload_n 0, 1) := by decide +kernel
theorem dX11_findOrders_73 : decode cX11_findOrders 73 = .ok (.getfield 107, 3) := by decide +kernel
theorem dX11_findOrders_76 : decode cX11_findOrders 76 = .ok (.if_icmp .ge 67, 3) := by decide +kernel
theorem dX11_findOrders_79 : decode cX11_findOrders 79 = .ok (.aload_n 0, 1) := by decide +kernel
theorem dX11_findOrders_80 : decode cX11_findOrders 80 = .ok (.getfield 85, 3) := by decide +kernel
theorem dX11_findOrders_83 : decode cX11_findOrders 83 = .ok (.iload_n 3, 1) := by decide +kernel
theorem dX11_findOrders_84 : decode cX11_findOrders 84 = .ok (.iload_n 2, 1) := by decide +kernel
theorem dX11_findOrders_85 : decode cX11_findOrders 85 = .ok (.aload_n 0, 1) := by decide +kernel
theorem dX11_findOrders_86 : decode cX11_findOrders 86 = .ok (.getfield 230, 3) := by decide +kernel
theorem dX11_findOrders_89 : decode cX11_findOrders 89 = .ok (.if_icmp .le 12, 3) := by decide +kernel
theorem dX11_findOrders_92 : decode cX11_findOrders 92 = .ok (.aload_n 0, 1) := by decide +kernel
theorem dX11_findOrders_93 : decode cX11_findOrders 93 = .ok (.getfield 19, 3) := by decide +kernel
theorem dX11_findOrders_96 : decode cX11_findOrders 96 = .ok (.iload_n 3, 1) := by decide +kernel
theorem dX11_findOrders_97 : decode cX11_findOrders 97 = .ok (.iaload, 1) := by decide +kernel
theorem dX11_findOrders_98 : decode cX11_findOrders 98 = .ok (.goto 9, 3) := by decide +kernel
theorem dX11_findOrders_101 : decode cX11_findOrders 101 = .ok (.aload_n 0, 1) := by decide +kernel
theorem dX11_findOrders_102 : decode cX11_findOrders 102 = .ok (.getfield 85, 3) := by decide +kernel
theorem dX11_findOrders_105 : decode cX11_findOrders 105 = .ok (.iload_n 3, 1) := by decide +kernel
theorem dX11_findOrders_106 : decode cX11_findOrders 106 = .ok (.iaload, 1) := by decide +kernel
theorem dX11_findOrders_107 : decode cX11_findOrders 107 = .ok (.iastore, 1) := by decide +kernel
theorem dX11_findOrders_108 : decode cX11_findOrders 108 = .ok (.aload_n 0, 1) := by decide +kernel
theorem dX11_findOrders_109 : decode cX11_findOrders 109 = .ok (.getfield 88, 3) := by decide +kernel
theorem dX11_findOrders_112 : decode cX11_findOrders 112 = .ok (.iload_n 3, 1) := by decide +kernel
theorem dX11_findOrders_113 : decode cX11_findOrders 113 = .ok (.iload_n 2, 1) := by decide +kernel
theorem dX11_findOrders_114 : decode cX11_findOrders 114 = .ok (.aload_n 0, 1) := by decide +kernel
theorem dX11_findOrders_115 : decode cX11_findOrders 115 = .ok (.getfield 234, 3) := by decide +kernel
theorem dX11_findOrders_118 : decode cX11_findOrders 118 = .ok (.if_icmp .ge 12, 3) := by decide +kernel
theorem dX11_findOrders_121 : decode cX11_findOrders 121 = .ok (.aload_n 0, 1) := by decide +kernel
theorem dX11_findOrders_122 : decode cX11_findOrders 122 = .ok (.getfield 19, 3) := by decide +kernel
theorem dX11_findOrders_125 : decode cX11_findOrders 125 = .ok (.iload_n 3, 1) := by decide +kernel
theorem dX11_findOrders_126 : decode cX11_findOrders 126 = .ok (.iaload, 1) := by decide +kernel
theorem dX11_findOrders_127 : decode cX11_findOrders 127 = .ok (.goto 9, 3) := by decide +kernel
theorem dX11_findOrders_130 : decode cX11_findOrders 130 = .ok (.aload_n 0, 1) := by decide +kernel
theorem dX11_findOrders_131 : decode cX11_findOrders 131 = .ok (.getfield 88, 3) := by decide +kernel
theorem dX11_findOrders_134 : decode cX11_findOrders 134 = .ok (.iload_n 3, 1) := by decide +kernel
theorem dX11_findOrders_135 : decode cX11_findOrders 135 = .ok (.iaload, 1) := by decide +kernel
theorem dX11_findOrders_136 : decode cX11_findOrders 136 = .ok (.iastore, 1) := by decide +kernel
theorem dX11_findOrders_137 : decode cX11_findOrders 137 = .ok (.iinc 3 1, 3) := by decide +kernel
theorem dX11_findOrders_140 : decode cX11_findOrders 140 = .ok (.goto (-69), 3) := by decide +kernel
theorem dX11_findOrders_143 : decode cX11_findOrders 143 = .ok (.aload_n 0, 1) := by decide +kernel
theorem dX11_findOrders_144 : decode cX11_findOrders 144 = .ok (.iload_n 2, 1) := by decide +kernel
theorem dX11_findOrders_145 : decode cX11_findOrders 145 = .ok (.aload_n 0, 1) := by decide +kernel
theorem dX11_findOrders_146 : decode cX11_findOrders 146 = .ok (.getfield 230, 3) := by decide +kernel
theorem dX11_findOrders_149 : decode cX11_findOrders 149 = .ok (.if_icmp .le 7, 3) := by decide +kernel
theorem dX11_findOrders_152 : decode cX11_findOrders 152 = .ok (.iload_n 2, 1) := by decide +kernel
theorem dX11_findOrders_153 : decode cX11_findOrders 153 = .ok (.goto 7, 3) := by decide +kernel
theorem dX11_findOrders_156 : decode cX11_findOrders 156 = .ok (.aload_n 0, 1) := by decide +kernel
theorem dX11_findOrders_157 : decode cX11_findOrders 157 = .ok (.getfield 230, 3) := by decide +kernel
theorem dX11_findOrders_160 : decode cX11_findOrders 160 = .ok (.putfield 230, 3) := by decide +kernel
theorem dX11_findOrders_163 : decode cX11_findOrders 163 = .ok (.aload_n 0, 1) := by decide +kernel
theorem dX11_findOrders_164 : decode cX11_findOrders 164 = .ok (.iload_n 2, 1) := by decide +kernel
theorem dX11_findOrders_165 : decode cX11_findOrders 165 = .ok (.aload_n 0, 1) := by decide +kernel
theorem dX11_findOrders_166 : decode cX11_findOrders 166 = .ok (.getfield 234, 3) := by decide +kernel
theorem dX11_findOrders_169 : decode cX11_findOrders 169 = .ok (.if_icmp .ge 7, 3) := by decide +kernel
theorem dX11_findOrders_172 : decode cX11_findOrders 172 = .ok (.iload_n 2, 1) := by decide +kernel
theorem dX11_findOrders_173 : decode cX11_findOrders 173 = .ok (.goto 7, 3) := by decide +kernel
theorem dX11_findOrders_176 : decode cX11_findOrders 176 = .ok (.aload_n 0, 1) := by decide +kernel
theorem dX11_findOrders_177 : decode cX11_findOrders 177 = .ok (.getfield 234, 3) := by decide +kernel
theorem dX11_findOrders_180 : decode cX11_findOrders 180 = .ok (.putfield 234, 3) := by decide +kernel
theorem dX11_findOrders_183 : decode cX11_findOrders 183 = .ok (.aload_n 0, 1) := by decide +kernel
theorem dX11_findOrders_184 : decode cX11_findOrders 184 = .ok (.invokevirtual 240, 3) := by decide +kernel
theorem dX11_findOrders_187 : decode cX11_findOrders 187 = .ok (.istore_n 1, 1) := by decide +kernel
theorem dX11_findOrders_188 : decode cX11_findOrders 188 = .ok (.goto (-136), 3) := by decide +kernel
theorem dX11_findOrders_191 : decode cX11_findOrders 191 = .ok (.iconst 0, 1) := by decide +kernel
theorem dX11_findOrders_192 : decode cX11_findOrders 192 = .ok (.istore_n 2, 1) := by decide +kernel
theorem dX11_findOrders_193 : decode cX11_findOrders 193 = .ok (.iload_n 2, 1) := by decide +kernel
theorem dX11_findOrders_194 : decode cX11_findOrders 194 = .ok (.aload_n 0, 1) := by decide +kernel
theorem dX11_findOrders_195 : decode cX11_findOrders 195 = .ok (.getfield 107, 3) := by decide +kernel
theorem dX11_findOrders_198 : decode cX11_findOrders 198 = .ok (.if_icmp .ge 21, 3) := by decide +kernel
theorem dX11_findOrders_201 : decode cX11_findOrders 201 = .ok (.aload_n 0, 1) := by decide +kernel
theorem dX11_findOrders_202 : decode cX11_findOrders 202 = .ok (.getfield 19, 3) := by decide +kernel
theorem dX11_findOrders_205 : decode cX11_findOrders 205 = .ok (.iload_n 2, 1) := by decide +kernel
theorem dX11_findOrders_206 : decode cX11_findOrders 206 = .ok (.aload_n 0, 1) := by decide +kernel
theorem dX11_findOrders_207 : decode cX11_findOrders 207 = .ok (.getfield 82, 3) := by decide +kernel
theorem dX11_findOrders_210 : decode cX11_findOrders 210 = .ok (.iload_n 2, 1) := by decide +kernel
theorem dX11_findOrders_211 : decode cX11_findOrders 211 = .ok (.iaload, 1) := by decide +kernel
theorem dX11_findOrders_212 : decode cX11_findOrders 212 = .ok (.iastore, 1) := by decide +kernel
theorem dX11_findOrders_213 : decode cX11_findOrders 213 = .ok (.iinc 2 1, 3) := by decide +kernel
theorem dX11_findOrders_216 : decode cX11_findOrders 216 = .ok (.goto (-23), 3) := by decide +kernel
theorem dX11_findOrders_219 : decode cX11_findOrders 219 = .ok (.return_, 1) := by decide +kernel
theorem dX11_orders_0 : decode cX11_orders 0 = .ok (.iload_n 1, 1) := by decide +kernel
theorem dX11_orders_1 : decode cX11_orders 1 = .ok (.i2l, 1) := by decide +kernel
theorem dX11_orders_2 : decode cX11_orders 2 = .ok (.lconst 0, 1) := by decide +kernel
theorem dX11_orders_3 : decode cX11_orders 3 = .ok (.lconst 1, 1) := by decide +kernel
theorem dX11_orders_4 : decode cX11_orders 4 = .ok (.invokestatic 110, 3) := by decide +kernel
theorem dX11_orders_7 : decode cX11_orders 7 = .ok (.ifCond .ne 34, 3) := by decide +kernel
theorem dX11_orders_10 : decode cX11_orders 10 = .ok (.iload_n 1, 1) := by decide +kernel
theorem dX11_orders_11 : decode cX11_orders 11 = .ok (.i2l, 1) := by decide +kernel
theorem dX11_orders_12 : decode cX11_orders 12 = .ok (.ldc2_w 219, 3) := by decide +kernel
theorem dX11_orders_15 : decode cX11_orders 15 = .ok (.ldc2_w 244, 3) := by decide +kernel
theorem dX11_orders_18 : decode cX11_orders 18 = .ok (.invokestatic 110, 3) := by decide +kernel
theorem dX11_orders_21 : decode cX11_orders 21 = .ok (.ifCond .ne 20, 3) := by decide +kernel
theorem dX11_orders_24 : decode cX11_orders 24 = .ok (.iload_n 1, 1) := by decide +kernel
theorem dX11_orders_25 : decode cX11_orders 25 = .ok (.i2l, 1) := by decide +kernel
theorem dX11_orders_26 : decode cX11_orders 26 = .ok (.ldc2_w 246, 3) := by decide +kernel
theorem dX11_orders_29 : decode cX11_orders 29 = .ok (.ldc2_w 248, 3) := by decide +kernel
theorem dX11_orders_32 : decode cX11_orders 32 = .ok (.invokestatic 110, 3) := by decide +kernel
theorem dX11_orders_35 : decode cX11_orders 35 = .ok (.ifCond .ne 6, 3) := by decide +kernel
theorem dX11_orders_38 : decode cX11_orders 38 = .ok (.bipush (-2), 2) := by decide +kernel
theorem dX11_orders_40 : decode cX11_orders 40 = .ok (.ireturn, 1) := by decide +kernel
theorem dX11_orders_41 : decode cX11_orders 41 = .ok (.aload_n 0, 1) := by decide +kernel
theorem dX11_orders_42 : decode cX11_orders 42 = .ok (.getfield 107, 3) := by decide +kernel
theorem dX11_orders_45 : decode cX11_orders 45 = .ok (.bipush 6, 2) := by decide +kernel
theorem dX11_orders_47 : decode cX11_orders 47 = .ok (.if_icmp .le 6, 3) := by decide +kernel
theorem dX11_orders_50 : decode cX11_orders 50 = .ok (.bipush (-3), 2) := by decide +kernel
theorem dX11_orders_52 : decode cX11_orders 52 = .ok (.ireturn, 1) := by decide +kernel
theorem dX11_orders_53 : decode cX11_orders 53 = .ok (.aload_n 0, 1) := by decide +kernel
theorem dX11_orders_54 : decode cX11_orders 54 = .ok (.invokevirtual 250, 3) := by decide +kernel
theorem dX11_orders_57 : decode cX11_orders 57 = .ok (.iload_n 1, 1) := by decide +kernel
theorem dX11_orders_58 : decode cX11_orders 58 = .ok (.iconst 2, 1) := by decide +kernel
theorem dX11_orders_59 : decode cX11_orders 59 = .ok (.if_icmp .ge 19, 3) := by decide +kernel
theorem dX11_orders_62 : decode cX11_orders 62 = .ok (.iload_n 1, 1) := by decide +kernel
theorem dX11_orders_63 : decode cX11_orders 63 = .ok (.ifCond .ne 10, 3) := by decide +kernel
theorem dX11_orders_66 : decode cX11_orders 66 = .ok (.aload_n 0, 1) := by decide +kernel
theorem dX11_orders_67 : decode cX11_orders 67 = .ok (.getfield 230, 3) := by decide +kernel
theorem dX11_orders_70 : decode cX11_orders 70 = .ok (.goto 7, 3) := by decide +kernel
theorem dX11_orders_73 : decode cX11_orders 73 = .ok (.aload_n 0, 1) := by decide +kernel
theorem dX11_orders_74 : decode cX11_orders 74 = .ok (.getfield 234, 3) := by decide +kernel
theorem dX11_orders_77 : decode cX11_orders 77 = .ok (.ireturn, 1) := by decide +kernel
theorem dX11_orders_78 : decode cX11_orders 78 = .ok (.iload_n 1, 1) := by decide +kernel
theorem dX11_orders_79 : decode cX11_orders 79 = .ok (.bipush 10, 2) := by decide +kernel
theorem dX11_orders_81 : decode cX11_orders 81 = .ok (.irem, 1) := by decide +kernel
theorem dX11_orders_82 : decode cX11_orders 82 = .ok (.istore_n 2, 1) := by decide +kernel
theorem dX11_orders_83 : decode cX11_orders 83 = .ok (.iload_n 2, 1) := by decide +kernel
theorem dX11_orders_84 : decode cX11_orders 84 = .ok (.aload_n 0, 1) := by decide +kernel
theorem dX11_orders_85 : decode cX11_orders 85 = .ok (.getfield 107, 3) := by decide +kernel
theorem dX11_orders_88 : decode cX11_orders 88 = .ok (.if_icmp .lt 8, 3) := by decide +kernel
theorem dX11_orders_91 : decode cX11_orders 91 = .ok (.bipush (-6), 2) := by decide +kernel
theorem dX11_orders_93 : decode cX11_orders 93 = .ok (.goto 24, 3) := by decide +kernel
theorem dX11_orders_96 : decode cX11_orders 96 = .ok (.iload_n 1, 1) := by decide +kernel
theorem dX11_orders_97 : decode cX11_orders 97 = .ok (.bipush 20, 2) := by decide +kernel
theorem dX11_orders_99 : decode cX11_orders 99 = .ok (.if_icmp .ge 12, 3) := by decide +kernel
theorem dX11_orders_102 : decode cX11_orders 102 = .ok (.aload_n 0, 1) := by decide +kernel
theorem dX11_orders_103 : decode cX11_orders 103 = .ok (.getfield 85, 3) := by decide +kernel
theorem dX11_orders_106 : decode cX11_orders 106 = .ok (.iload_n 2, 1) := by decide +kernel
theorem dX11_orders_107 : decode cX11_orders 107 = .ok (.iaload, 1) := by decide +kernel
theorem dX11_orders_108 : decode cX11_orders 108 = .ok (.goto 9, 3) := by decide +kernel
theorem dX11_orders_111 : decode cX11_orders 111 = .ok (.aload_n 0, 1) := by decide +kernel
theorem dX11_orders_112 : decode cX11_orders 112 = .ok (.getfield 88, 3) := by decide +kernel
theorem dX11_orders_115 : decode cX11_orders 115 = .ok (.iload_n 2, 1) := by decide +kernel
theorem dX11_orders_116 : decode cX11_orders 116 = .ok (.iaload, 1) := by decide +kernel
theorem dX11_orders_117 : decode cX11_orders 117 = .ok (.ireturn, 1) := by decide +kernel
theorem dX11_gainOf_0 : decode cX11_gainOf 0 = .ok (.aload_n 0, 1) := by decide +kernel
theorem dX11_gainOf_1 : decode cX11_gainOf 1 = .ok (.iload_n 2, 1) := by decide +kernel
theorem dX11_gainOf_2 : decode cX11_gainOf 2 = .ok (.invokevirtual 185, 3) := by decide +kernel
theorem dX11_gainOf_5 : decode cX11_gainOf 5 = .ok (.aload_n 0, 1) := by decide +kernel
theorem dX11_gainOf_6 : decode cX11_gainOf 6 = .ok (.iload_n 1, 1) := by decide +kernel
theorem dX11_gainOf_7 : decode cX11_gainOf 7 = .ok (.invokevirtual 191, 3) := by decide +kernel
theorem dX11_gainOf_10 : decode cX11_gainOf 10 = .ok (.aload_n 0, 1) := by decide +kernel
theorem dX11_gainOf_11 : decode cX11_gainOf 11 = .ok (.getfield 22, 3) := by decide +kernel
theorem dX11_gainOf_14 : decode cX11_gainOf 14 = .ok (.iload_n 1, 1) := by decide +kernel
theorem dX11_gainOf_15 : decode cX11_gainOf 15 = .ok (.iaload, 1) := by decide +kernel
theorem dX11_gainOf_16 : decode cX11_gainOf 16 = .ok (.aload_n 0, 1) := by decide +kernel
theorem dX11_gainOf_17 : decode cX11_gainOf 17 = .ok (.getfield 61, 3) := by decide +kernel
theorem dX11_gainOf_20 : decode cX11_gainOf 20 = .ok (.iload_n 1, 1) := by decide +kernel
theorem dX11_gainOf_21 : decode cX11_gainOf 21 = .ok (.iaload, 1) := by decide +kernel
theorem dX11_gainOf_22 : decode cX11_gainOf 22 = .ok (.isub, 1) := by decide +kernel
theorem dX11_gainOf_23 : decode cX11_gainOf 23 = .ok (.isub, 1) := by decide +kernel
theorem dX11_gainOf_24 : decode cX11_gainOf 24 = .ok (.ireturn, 1) := by decide +kernel
theorem dX11_gain_0 : decode cX11_gain 0 = .ok (.aload_n 0, 1) := by decide +kernel
theorem dX11_gain_1 : decode cX11_gain 1 = .ok (.iload_n 1, 1) := by decide +kernel
theorem dX11_gain_2 : decode cX11_gain 2 = .ok (.invokevirtual 123, 3) := by decide +kernel
theorem dX11_gain_5 : decode cX11_gain 5 = .ok (.ifCond .ne 6, 3) := by decide +kernel
theorem dX11_gain_8 : decode cX11_gain 8 = .ok (.ldc 253, 2) := by decide +kernel
theorem dX11_gain_10 : decode cX11_gain 10 = .ok (.ireturn, 1) := by decide +kernel
theorem dX11_gain_11 : decode cX11_gain 11 = .ok (.aload_n 0, 1) := by decide +kernel
theorem dX11_gain_12 : decode cX11_gain 12 = .ok (.invokevirtual 182, 3) := by decide +kernel
theorem dX11_gain_15 : decode cX11_gain 15 = .ok (.aload_n 0, 1) := by decide +kernel
theorem dX11_gain_16 : decode cX11_gain 16 = .ok (.iload_n 1, 1) := by decide +kernel
theorem dX11_gain_17 : decode cX11_gain 17 = .ok (.aload_n 0, 1) := by decide +kernel
theorem dX11_gain_18 : decode cX11_gain 18 = .ok (.getfield 103, 3) := by decide +kernel
theorem dX11_gain_21 : decode cX11_gain 21 = .ok (.invokevirtual 254, 3) := by decide +kernel
theorem dX11_gain_24 : decode cX11_gain 24 = .ok (.ireturn, 1) := by decide +kernel
theorem dX11_cut_0 : decode cX11_cut 0 = .ok (.aload_n 0, 1) := by decide +kernel
theorem dX11_cut_1 : decode cX11_cut 1 = .ok (.iload_n 1, 1) := by decide +kernel
theorem dX11_cut_2 : decode cX11_cut 2 = .ok (.invokevirtual 123, 3) := by decide +kernel
theorem dX11_cut_5 : decode cX11_cut 5 = .ok (.ifCond .ne 6, 3) := by decide +kernel
theorem dX11_cut_8 : decode cX11_cut 8 = .ok (.ldc 253, 2) := by decide +kernel
theorem dX11_cut_10 : decode cX11_cut 10 = .ok (.ireturn, 1) := by decide +kernel
theorem dX11_cut_11 : decode cX11_cut 11 = .ok (.iload_n 2, 1) := by decide +kernel
theorem dX11_cut_12 : decode cX11_cut 12 = .ok (.i2l, 1) := by decide +kernel
theorem dX11_cut_13 : decode cX11_cut 13 = .ok (.lconst 0, 1) := by decide +kernel
theorem dX11_cut_14 : decode cX11_cut 14 = .ok (.lconst 1, 1) := by decide +kernel
theorem dX11_cut_15 : decode cX11_cut 15 = .ok (.invokestatic 110, 3) := by decide +kernel
theorem dX11_cut_18 : decode cX11_cut 18 = .ok (.ifCond .ne 7, 3) := by decide +kernel
theorem dX11_cut_21 : decode cX11_cut 21 = .ok (.ldc_w 257, 3) := by decide +kernel
theorem dX11_cut_24 : decode cX11_cut 24 = .ok (.ireturn, 1) := by decide +kernel
theorem dX11_cut_25 : decode cX11_cut 25 = .ok (.aload_n 0, 1) := by decide +kernel
theorem dX11_cut_26 : decode cX11_cut 26 = .ok (.invokevirtual 182, 3) := by decide +kernel
theorem dX11_cut_29 : decode cX11_cut 29 = .ok (.aload_n 0, 1) := by decide +kernel
theorem dX11_cut_30 : decode cX11_cut 30 = .ok (.getfield 25, 3) := by decide +kernel
theorem dX11_cut_33 : decode cX11_cut 33 = .ok (.iload_n 1, 1) := by decide +kernel
theorem dX11_cut_34 : decode cX11_cut 34 = .ok (.iaload, 1) := by decide +kernel
theorem dX11_cut_35 : decode cX11_cut 35 = .ok (.istore_n 3, 1) := by decide +kernel
theorem dX11_cut_36 : decode cX11_cut 36 = .ok (.iconst 0, 1) := by decide +kernel
theorem dX11_cut_37 : decode cX11_cut 37 = .ok (.istore 4, 2) := by decide +kernel
theorem dX11_cut_39 : decode cX11_cut 39 = .ok (.ldc_w 258, 3) := by decide +kernel
theorem dX11_cut_42 : decode cX11_cut 42 = .ok (.istore 5, 2) := by decide +kernel
theorem dX11_cut_44 : decode cX11_cut 44 = .ok (.iconst 0, 1) := by decide +kernel
theorem dX11_cut_45 : decode cX11_cut 45 = .ok (.istore 6, 2) := by decide +kernel
theorem dX11_cut_47 : decode cX11_cut 47 = .ok (.iload 6, 2) := by decide +kernel
theorem dX11_cut_49 : decode cX11_cut 49 = .ok (.bipush 100, 2) := by decide +kernel
theorem dX11_cut_51 : decode cX11_cut 51 = .ok (.if_icmp .ge 43, 3) := by decide +kernel
theorem dX11_cut_54 : decode cX11_cut 54 = .ok (.aload_n 0, 1) := by decide +kernel
theorem dX11_cut_55 : decode cX11_cut 55 = .ok (.getfield 25, 3) := by decide +kernel
theorem dX11_cut_58 : decode cX11_cut 58 = .ok (.iload_n 1, 1) := by decide +kernel
theorem dX11_cut_59 : decode cX11_cut 59 = .ok (.iload 6, 2) := by decide +kernel
theorem dX11_cut_61 : decode cX11_cut 61 = .ok (.iastore, 1) := by decide +kernel
theorem dX11_cut_62 : decode cX11_cut 62 = .ok (.aload_n 0, 1) := by decide +kernel
theorem dX11_cut_63 : decode cX11_cut 63 = .ok (.iload_n 1, 1) := by decide +kernel
theorem dX11_cut_64 : decode cX11_cut 64 = .ok (.aload_n 0, 1) := by decide +kernel
theorem dX11_cut_65 : decode cX11_cut 65 = .ok (.getfield 103, 3) := by decide +kernel
theorem dX11_cut_68 : decode cX11_cut 68 = .ok (.invokevirtual 254, 3) := by decide +kernel
theorem dX11_cut_71 : decode cX11_cut 71 = .ok (.istore 7, 2) := by decide +kernel
theorem dX11_cut_73 : decode cX11_cut 73 = .ok (.iload 7, 2) := by decide +kernel
theorem dX11_cut_75 : decode cX11_cut 75 = .ok (.iload 5, 2) := by decide +kernel
theorem dX11_cut_77 : decode cX11_cut 77 = .ok (.if_icmp .le 11, 3) := by decide +kernel
theorem dX11_cut_80 : decode cX11_cut 80 = .ok (.iload 7, 2) := by decide +kernel
theorem dX11_cut_82 : decode cX11_cut 82 = .ok (.istore 5, 2) := by decide +kernel
theorem dX11_cut_84 : decode cX11_cut 84 = .ok (.iload 6, 2) := by decide +kernel
theorem dX11_cut_86 : decode cX11_cut 86 = .ok (.istore 4, 2) := by decide +kernel
theorem dX11_cut_88 : decode cX11_cut 88 = .ok (.iinc 6 1, 3) := by decide +kernel
theorem dX11_cut_91 : decode cX11_cut 91 = .ok (.goto (-44), 3) := by decide +kernel
theorem dX11_cut_94 : decode cX11_cut 94 = .ok (.aload_n 0, 1) := by decide +kernel
theorem dX11_cut_95 : decode cX11_cut 95 = .ok (.getfield 25, 3) := by decide +kernel
theorem dX11_cut_98 : decode cX11_cut 98 = .ok (.iload_n 1, 1) := by decide +kernel
theorem dX11_cut_99 : decode cX11_cut 99 = .ok (.iload_n 3, 1) := by decide +kernel
theorem dX11_cut_100 : decode cX11_cut 100 = .ok (.iastore, 1) := by decide +kernel
theorem dX11_cut_101 : decode cX11_cut 101 = .ok (.iload_n 2, 1) := by decide +kernel
theorem dX11_cut_102 : decode cX11_cut 102 = .ok (.ifCond .ne 8, 3) := by decide +kernel
theorem dX11_cut_105 : decode cX11_cut 105 = .ok (.iload 4, 2) := by decide +kernel
theorem dX11_cut_107 : decode cX11_cut 107 = .ok (.goto 5, 3) := by decide +kernel
theorem dX11_cut_110 : decode cX11_cut 110 = .ok (.iload 5, 2) := by decide +kernel
theorem dX11_cut_112 : decode cX11_cut 112 = .ok (.ireturn, 1) := by decide +kernel
theorem dX11_allWishes_0 : decode cX11_allWishes 0 = .ok (.iconst 0, 1) := by decide +kernel
theorem dX11_allWishes_1 : decode cX11_allWishes 1 = .ok (.istore_n 1, 1) := by decide +kernel
theorem dX11_allWishes_2 : decode cX11_allWishes 2 = .ok (.iconst 0, 1) := by decide +kernel
theorem dX11_allWishes_3 : decode cX11_allWishes 3 = .ok (.istore_n 2, 1) := by decide +kernel
theorem dX11_allWishes_4 : decode cX11_allWishes 4 = .ok (.iload_n 2, 1) := by decide +kernel
theorem dX11_allWishes_5 : decode cX11_allWishes 5 = .ok (.aload_n 0, 1) := by decide +kernel
theorem dX11_allWishes_6 : decode cX11_allWishes 6 = .ok (.getfield 114, 3) := by decide +kernel
theorem dX11_allWishes_9 : decode cX11_allWishes 9 = .ok (.if_icmp .ge 18, 3) := by decide +kernel
theorem dX11_allWishes_12 : decode cX11_allWishes 12 = .ok (.iload_n 1, 1) := by decide +kernel
theorem dX11_allWishes_13 : decode cX11_allWishes 13 = .ok (.aload_n 0, 1) := by decide +kernel
theorem dX11_allWishes_14 : decode cX11_allWishes 14 = .ok (.getfield 40, 3) := by decide +kernel
theorem dX11_allWishes_17 : decode cX11_allWishes 17 = .ok (.iload_n 2, 1) := by decide +kernel
theorem dX11_allWishes_18 : decode cX11_allWishes 18 = .ok (.iaload, 1) := by decide +kernel
theorem dX11_allWishes_19 : decode cX11_allWishes 19 = .ok (.iadd, 1) := by decide +kernel
theorem dX11_allWishes_20 : decode cX11_allWishes 20 = .ok (.istore_n 1, 1) := by decide +kernel
theorem dX11_allWishes_21 : decode cX11_allWishes 21 = .ok (.iinc 2 1, 3) := by decide +kernel
theorem dX11_allWishes_24 : decode cX11_allWishes 24 = .ok (.goto (-20), 3) := by decide +kernel
theorem dX11_allWishes_27 : decode cX11_allWishes 27 = .ok (.iload_n 1, 1) := by decide +kernel
theorem dX11_allWishes_28 : decode cX11_allWishes 28 = .ok (.ireturn, 1) := by decide +kernel
theorem dX11_leaveAll_0 : decode cX11_leaveAll 0 = .ok (.iconst 0, 1) := by decide +kernel
theorem dX11_leaveAll_1 : decode cX11_leaveAll 1 = .ok (.istore_n 2, 1) := by decide +kernel
theorem dX11_leaveAll_2 : decode cX11_leaveAll 2 = .ok (.iconst 1, 1) := by decide +kernel
theorem dX11_leaveAll_3 : decode cX11_leaveAll 3 = .ok (.istore_n 3, 1) := by decide +kernel
theorem dX11_leaveAll_4 : decode cX11_leaveAll 4 = .ok (.iconst 0, 1) := by decide +kernel
theorem dX11_leaveAll_5 : decode cX11_leaveAll 5 = .ok (.istore 4, 2) := by decide +kernel
theorem dX11_leaveAll_7 : decode cX11_leaveAll 7 = .ok (.iload 4, 2) := by decide +kernel
theorem dX11_leaveAll_9 : decode cX11_leaveAll 9 = .ok (.aload_n 0, 1) := by decide +kernel
theorem dX11_leaveAll_10 : decode cX11_leaveAll 10 = .ok (.getfield 114, 3) := by decide +kernel
theorem dX11_leaveAll_13 : decode cX11_leaveAll 13 = .ok (.if_icmp .ge 76, 3) := by decide +kernel
theorem dX11_leaveAll_16 : decode cX11_leaveAll 16 = .ok (.iload_n 1, 1) := by decide +kernel
theorem dX11_leaveAll_17 : decode cX11_leaveAll 17 = .ok (.iload_n 2, 1) := by decide +kernel
theorem dX11_leaveAll_18 : decode cX11_leaveAll 18 = .ok (.ishr, 1) := by decide +kernel
theorem dX11_leaveAll_19 : decode cX11_leaveAll 19 = .ok (.iconst 1, 1) := by decide +kernel
theorem dX11_leaveAll_20 : decode cX11_leaveAll 20 = .ok (.aload_n 0, 1) := by decide +kernel
theorem dX11_leaveAll_21 : decode cX11_leaveAll 21 = .ok (.getfield 40, 3) := by decide +kernel
theorem dX11_leaveAll_24 : decode cX11_leaveAll 24 = .ok (.iload 4, 2) := by decide +kernel
theorem dX11_leaveAll_26 : decode cX11_leaveAll 26 = .ok (.iaload, 1) := by decide +kernel
theorem dX11_leaveAll_27 : decode cX11_leaveAll 27 = .ok (.ishl, 1) := by decide +kernel
theorem dX11_leaveAll_28 : decode cX11_leaveAll 28 = .ok (.iconst 1, 1) := by decide +kernel
theorem dX11_leaveAll_29 : decode cX11_leaveAll 29 = .ok (.isub, 1) := by decide +kernel
theorem dX11_leaveAll_30 : decode cX11_leaveAll 30 = .ok (.iand, 1) := by decide +kernel
theorem dX11_leaveAll_31 : decode cX11_leaveAll 31 = .ok (.istore 5, 2) := by decide +kernel
theorem dX11_leaveAll_33 : decode cX11_leaveAll 33 = .ok (.iload_n 3, 1) := by decide +kernel
theorem dX11_leaveAll_34 : decode cX11_leaveAll 34 = .ok (.ifCond .eq 20, 3) := by decide +kernel
theorem dX11_leaveAll_37 : decode cX11_leaveAll 37 = .ok (.iload 5, 2) := by decide +kernel
theorem dX11_leaveAll_39 : decode cX11_leaveAll 39 = .ok (.aload_n 0, 1) := by decide +kernel
theorem dX11_leaveAll_40 : decode cX11_leaveAll 40 = .ok (.getfield 91, 3) := by decide +kernel
theorem dX11_leaveAll_43 : decode cX11_leaveAll 43 = .ok (.iload 4, 2) := by decide +kernel
theorem dX11_leaveAll_45 : decode cX11_leaveAll 45 = .ok (.iaload, 1) := by decide +kernel
theorem dX11_leaveAll_46 : decode cX11_leaveAll 46 = .ok (.iand, 1) := by decide +kernel
theorem dX11_leaveAll_47 : decode cX11_leaveAll 47 = .ok (.ifCond .ne 7, 3) := by decide +kernel
theorem dX11_leaveAll_50 : decode cX11_leaveAll 50 = .ok (.iconst 1, 1) := by decide +kernel
theorem dX11_leaveAll_51 : decode cX11_leaveAll 51 = .ok (.goto 4, 3) := by decide +kernel
theorem dX11_leaveAll_54 : decode cX11_leaveAll 54 = .ok (.iconst 0, 1) := by decide +kernel
theorem dX11_leaveAll_55 : decode cX11_leaveAll 55 = .ok (.istore_n 3, 1) := by decide +kernel
theorem dX11_leaveAll_56 : decode cX11_leaveAll 56 = .ok (.aload_n 0, 1) := by decide +kernel
theorem dX11_leaveAll_57 : decode cX11_leaveAll 57 = .ok (.getfield 43, 3) := by decide +kernel
theorem dX11_leaveAll_60 : decode cX11_leaveAll 60 = .ok (.iload 4, 2) := by decide +kernel
theorem dX11_leaveAll_62 : decode cX11_leaveAll 62 = .ok (.aload_n 0, 1) := by decide +kernel
theorem dX11_leaveAll_63 : decode cX11_leaveAll 63 = .ok (.getfield 91, 3) := by decide +kernel
theorem dX11_leaveAll_66 : decode cX11_leaveAll 66 = .ok (.iload 4, 2) := by decide +kernel
theorem dX11_leaveAll_68 : decode cX11_leaveAll 68 = .ok (.iaload, 1) := by decide +kernel
theorem dX11_leaveAll_69 : decode cX11_leaveAll 69 = .ok (.iload 5, 2) := by decide +kernel
theorem dX11_leaveAll_71 : decode cX11_leaveAll 71 = .ok (.ior, 1) := by decide +kernel
theorem dX11_leaveAll_72 : decode cX11_leaveAll 72 = .ok (.iastore, 1) := by decide +kernel
theorem dX11_leaveAll_73 : decode cX11_leaveAll 73 = .ok (.iload_n 2, 1) := by decide +kernel
theorem dX11_leaveAll_74 : decode cX11_leaveAll 74 = .ok (.aload_n 0, 1) := by decide +kernel
theorem dX11_leaveAll_75 : decode cX11_leaveAll 75 = .ok (.getfield 40, 3) := by decide +kernel
theorem dX11_leaveAll_78 : decode cX11_leaveAll 78 = .ok (.iload 4, 2) := by decide +kernel
theorem dX11_leaveAll_80 : decode cX11_leaveAll 80 = .ok (.iaload, 1) := by decide +kernel
theorem dX11_leaveAll_81 : decode cX11_leaveAll 81 = .ok (.iadd, 1) := by decide +kernel
theorem dX11_leaveAll_82 : decode cX11_leaveAll 82 = .ok (.istore_n 2, 1) := by decide +kernel
theorem dX11_leaveAll_83 : decode cX11_leaveAll 83 = .ok (.iinc 4 1, 3) := by decide +kernel
theorem dX11_leaveAll_86 : decode cX11_leaveAll 86 = .ok (.goto (-79), 3) := by decide +kernel
theorem dX11_leaveAll_89 : decode cX11_leaveAll 89 = .ok (.iload_n 3, 1) := by decide +kernel
theorem dX11_leaveAll_90 : decode cX11_leaveAll 90 = .ok (.ireturn, 1) := by decide +kernel
theorem dX11_broken_0 : decode cX11_broken 0 = .ok (.iload_n 1, 1) := by decide +kernel
theorem dX11_broken_1 : decode cX11_broken 1 = .ok (.i2l, 1) := by decide +kernel
theorem dX11_broken_2 : decode cX11_broken 2 = .ok (.lconst 0, 1) := by decide +kernel
theorem dX11_broken_3 : decode cX11_broken 3 = .ok (.lconst 1, 1) := by decide +kernel
theorem dX11_broken_4 : decode cX11_broken 4 = .ok (.invokestatic 110, 3) := by decide +kernel
theorem dX11_broken_7 : decode cX11_broken 7 = .ok (.ifCond .ne 6, 3) := by decide +kernel
theorem dX11_broken_10 : decode cX11_broken 10 = .ok (.bipush (-2), 2) := by decide +kernel
theorem dX11_broken_12 : decode cX11_broken 12 = .ok (.ireturn, 1) := by decide +kernel
theorem dX11_broken_13 : decode cX11_broken 13 = .ok (.aload_n 0, 1) := by decide +kernel
theorem dX11_broken_14 : decode cX11_broken 14 = .ok (.invokevirtual 259, 3) := by decide +kernel
theorem dX11_broken_17 : decode cX11_broken 17 = .ok (.istore_n 2, 1) := by decide +kernel
theorem dX11_broken_18 : decode cX11_broken 18 = .ok (.iload_n 2, 1) := by decide +kernel
theorem dX11_broken_19 : decode cX11_broken 19 = .ok (.bipush 8, 2) := by decide +kernel
theorem dX11_broken_21 : decode cX11_broken 21 = .ok (.if_icmp .le 6, 3) := by decide +kernel
theorem dX11_broken_24 : decode cX11_broken 24 = .ok (.bipush (-3), 2) := by decide +kernel
theorem dX11_broken_26 : decode cX11_broken 26 = .ok (.ireturn, 1) := by decide +kernel
theorem dX11_broken_27 : decode cX11_broken 27 = .ok (.iconst 0, 1) := by decide +kernel
theorem dX11_broken_28 : decode cX11_broken 28 = .ok (.istore_n 3, 1) := by decide +kernel
theorem dX11_broken_29 : decode cX11_broken 29 = .ok (.iload_n 3, 1) := by decide +kernel
theorem dX11_broken_30 : decode cX11_broken 30 = .ok (.aload_n 0, 1) := by decide +kernel
theorem dX11_broken_31 : decode cX11_broken 31 = .ok (.getfield 114, 3) := by decide +kernel
theorem dX11_broken_34 : decode cX11_broken 34 = .ok (.if_icmp .ge 21, 3) := by decide +kernel
theorem dX11_broken_37 : decode cX11_broken 37 = .ok (.aload_n 0, 1) := by decide +kernel
theorem dX11_broken_38 : decode cX11_broken 38 = .ok (.getfield 91, 3) := by decide +kernel
theorem dX11_broken_41 : decode cX11_broken 41 = .ok (.iload_n 3, 1) := by decide +kernel
theorem dX11_broken_42 : decode cX11_broken 42 = .ok (.aload_n 0, 1) := by decide +kernel
theorem dX11_broken_43 : decode cX11_broken 43 = .ok (.getfield 43, 3) := by decide +kernel
theorem dX11_broken_46 : decode cX11_broken 46 = .ok (.iload_n 3, 1) := by decide +kernel
theorem dX11_broken_47 : decode cX11_broken 47 = .ok (.iaload, 1) := by decide +kernel
theorem dX11_broken_48 : decode cX11_broken 48 = .ok (.iastore, 1) := by decide +kernel
theorem dX11_broken_49 : decode cX11_broken 49 = .ok (.iinc 3 1, 3) := by decide +kernel
theorem dX11_broken_52 : decode cX11_broken 52 = .ok (.goto (-23), 3) := by decide +kernel
theorem dX11_broken_55 : decode cX11_broken 55 = .ok (.bipush (-6), 2) := by decide +kernel
theorem dX11_broken_57 : decode cX11_broken 57 = .ok (.istore_n 3, 1) := by decide +kernel
theorem dX11_broken_58 : decode cX11_broken 58 = .ok (.iconst 0, 1) := by decide +kernel
theorem dX11_broken_59 : decode cX11_broken 59 = .ok (.istore 4, 2) := by decide +kernel
theorem dX11_broken_61 : decode cX11_broken 61 = .ok (.iload 4, 2) := by decide +kernel
theorem dX11_broken_63 : decode cX11_broken 63 = .ok (.iconst 1, 1) := by decide +kernel
theorem dX11_broken_64 : decode cX11_broken 64 = .ok (.iload_n 2, 1) := by decide +kernel
theorem dX11_broken_65 : decode cX11_broken 65 = .ok (.ishl, 1) := by decide +kernel
theorem dX11_broken_66 : decode cX11_broken 66 = .ok (.if_icmp .ge 64, 3) := by decide +kernel
theorem dX11_broken_69 : decode cX11_broken 69 = .ok (.iload_n 3, 1) := by decide +kernel
theorem dX11_broken_70 : decode cX11_broken 70 = .ok (.ifCond .lt 15, 3) := by decide +kernel
theorem dX11_broken_73 : decode cX11_broken 73 = .ok (.iload 4, 2) := by decide +kernel
theorem dX11_broken_75 : decode cX11_broken 75 = .ok (.invokestatic 262, 3) := by decide +kernel
theorem dX11_broken_78 : decode cX11_broken 78 = .ok (.iload_n 3, 1) := by decide +kernel
theorem dX11_broken_79 : decode cX11_broken 79 = .ok (.invokestatic 262, 3) := by decide +kernel
theorem dX11_broken_82 : decode cX11_broken 82 = .ok (.if_icmp .ge 7, 3) := by decide +kernel
theorem dX11_broken_85 : decode cX11_broken 85 = .ok (.iconst 1, 1) := by decide +kernel
theorem dX11_broken_86 : decode cX11_broken 86 = .ok (.goto 4, 3) := by decide +kernel
theorem dX11_broken_89 : decode cX11_broken 89 = .ok (.iconst 0, 1) := by decide +kernel
theorem dX11_broken_90 : decode cX11_broken 90 = .ok (.istore 5, 2) := by decide +kernel
theorem dX11_broken_92 : decode cX11_broken 92 = .ok (.iload 5, 2) := by decide +kernel
theorem dX11_broken_94 : decode cX11_broken 94 = .ok (.ifCond .eq 30, 3) := by decide +kernel
theorem dX11_broken_97 : decode cX11_broken 97 = .ok (.aload_n 0, 1) := by decide +kernel
theorem dX11_broken_98 : decode cX11_broken 98 = .ok (.iload 4, 2) := by decide +kernel
theorem dX11_broken_100 : decode cX11_broken 100 = .ok (.invokevirtual 265, 3) := by decide +kernel
theorem dX11_broken_103 : decode cX11_broken 103 = .ok (.ifCond .eq 21, 3) := by decide +kernel
theorem dX11_broken_106 : decode cX11_broken 106 = .ok (.aload_n 0, 1) := by decide +kernel
theorem dX11_broken_107 : decode cX11_broken 107 = .ok (.invokevirtual 182, 3) := by decide +kernel
theorem dX11_broken_110 : decode cX11_broken 110 = .ok (.aload_n 0, 1) := by decide +kernel
theorem dX11_broken_111 : decode cX11_broken 111 = .ok (.invokevirtual 223, 3) := by decide +kernel
theorem dX11_broken_114 : decode cX11_broken 114 = .ok (.ifCond .ne 8, 3) := by decide +kernel
theorem dX11_broken_117 : decode cX11_broken 117 = .ok (.iload 4, 2) := by decide +kernel
theorem dX11_broken_119 : decode cX11_broken 119 = .ok (.goto 4, 3) := by decide +kernel
theorem dX11_broken_122 : decode cX11_broken 122 = .ok (.iload_n 3, 1) := by decide +kernel
theorem dX11_broken_123 : decode cX11_broken 123 = .ok (.istore_n 3, 1) := by decide +kernel
theorem dX11_broken_124 : decode cX11_broken 124 = .ok (.iinc 4 1, 3) := by decide +kernel
theorem dX11_broken_127 : decode cX11_broken 127 = .ok (.goto (-66), 3) := by decide +kernel
theorem dX11_broken_130 : decode cX11_broken 130 = .ok (.iconst 0, 1) := by decide +kernel
theorem dX11_broken_131 : decode cX11_broken 131 = .ok (.istore 4, 2) := by decide +kernel
theorem dX11_broken_133 : decode cX11_broken 133 = .ok (.iload 4, 2) := by decide +kernel
theorem dX11_broken_135 : decode cX11_broken 135 = .ok (.aload_n 0, 1) := by decide +kernel
theorem dX11_broken_136 : decode cX11_broken 136 = .ok (.getfield 114, 3) := by decide +kernel
theorem dX11_broken_139 : decode cX11_broken 139 = .ok (.if_icmp .ge 23, 3) := by decide +kernel
theorem dX11_broken_142 : decode cX11_broken 142 = .ok (.aload_n 0, 1) := by decide +kernel
theorem dX11_broken_143 : decode cX11_broken 143 = .ok (.getfield 43, 3) := by decide +kernel
theorem dX11_broken_146 : decode cX11_broken 146 = .ok (.iload 4, 2) := by decide +kernel
theorem dX11_broken_148 : decode cX11_broken 148 = .ok (.aload_n 0, 1) := by decide +kernel
theorem dX11_broken_149 : decode cX11_broken 149 = .ok (.getfield 91, 3) := by decide +kernel
theorem dX11_broken_152 : decode cX11_broken 152 = .ok (.iload 4, 2) := by decide +kernel
theorem dX11_broken_154 : decode cX11_broken 154 = .ok (.iaload, 1) := by decide +kernel
theorem dX11_broken_155 : decode cX11_broken 155 = .ok (.iastore, 1) := by decide +kernel
theorem dX11_broken_156 : decode cX11_broken 156 = .ok (.iinc 4 1, 3) := by decide +kernel
theorem dX11_broken_159 : decode cX11_broken 159 = .ok (.goto (-26), 3) := by decide +kernel
theorem dX11_broken_162 : decode cX11_broken 162 = .ok (.iload_n 1, 1) := by decide +kernel
theorem dX11_broken_163 : decode cX11_broken 163 = .ok (.ifCond .ne 7, 3) := by decide +kernel
theorem dX11_broken_166 : decode cX11_broken 166 = .ok (.iload_n 3, 1) := by decide +kernel
theorem dX11_broken_167 : decode cX11_broken 167 = .ok (.goto 7, 3) := by decide +kernel
theorem dX11_broken_170 : decode cX11_broken 170 = .ok (.iload_n 3, 1) := by decide +kernel
theorem dX11_broken_171 : decode cX11_broken 171 = .ok (.invokestatic 262, 3) := by decide +kernel
theorem dX11_broken_174 : decode cX11_broken 174 = .ok (.ireturn, 1) := by decide +kernel
theorem dX11_lesson_0 : decode cX11_lesson 0 = .ok (.iload_n 1, 1) := by decide +kernel
theorem dX11_lesson_1 : decode cX11_lesson 1 = .ok (.i2l, 1) := by decide +kernel
theorem dX11_lesson_2 : decode cX11_lesson 2 = .ok (.lconst 1, 1) := by decide +kernel
theorem dX11_lesson_3 : decode cX11_lesson 3 = .ok (.ldc2_w 121, 3) := by decide +kernel
theorem dX11_lesson_6 : decode cX11_lesson 6 = .ok (.invokestatic 110, 3) := by decide +kernel
theorem dX11_lesson_9 : decode cX11_lesson 9 = .ok (.ifCond .ne 6, 3) := by decide +kernel
theorem dX11_lesson_12 : decode cX11_lesson 12 = .ok (.bipush (-2), 2) := by decide +kernel
theorem dX11_lesson_14 : decode cX11_lesson 14 = .ok (.ireturn, 1) := by decide +kernel
theorem dX11_lesson_15 : decode cX11_lesson 15 = .ok (.aload_n 0, 1) := by decide +kernel
theorem dX11_lesson_16 : decode cX11_lesson 16 = .ok (.getfield 268, 3) := by decide +kernel
theorem dX11_lesson_19 : decode cX11_lesson 19 = .ok (.bipush 8, 2) := by decide +kernel
theorem dX11_lesson_21 : decode cX11_lesson 21 = .ok (.if_icmp .ne 6, 3) := by decide +kernel
theorem dX11_lesson_24 : decode cX11_lesson 24 = .ok (.bipush (-4), 2) := by decide +kernel
theorem dX11_lesson_26 : decode cX11_lesson 26 = .ok (.ireturn, 1) := by decide +kernel
theorem dX11_lesson_27 : decode cX11_lesson 27 = .ok (.aload_n 0, 1) := by decide +kernel
theorem dX11_lesson_28 : decode cX11_lesson 28 = .ok (.getfield 94, 3) := by decide +kernel
theorem dX11_lesson_31 : decode cX11_lesson 31 = .ok (.aload_n 0, 1) := by decide +kernel
theorem dX11_lesson_32 : decode cX11_lesson 32 = .ok (.getfield 268, 3) := by decide +kernel
theorem dX11_lesson_35 : decode cX11_lesson 35 = .ok (.iload_n 1, 1) := by decide +kernel
theorem dX11_lesson_36 : decode cX11_lesson 36 = .ok (.iastore, 1) := by decide +kernel
theorem dX11_lesson_37 : decode cX11_lesson 37 = .ok (.aload_n 0, 1) := by decide +kernel
theorem dX11_lesson_38 : decode cX11_lesson 38 = .ok (.dup, 1) := by decide +kernel
theorem dX11_lesson_39 : decode cX11_lesson 39 = .ok (.getfield 268, 3) := by decide +kernel
theorem dX11_lesson_42 : decode cX11_lesson 42 = .ok (.iconst 1, 1) := by decide +kernel
theorem dX11_lesson_43 : decode cX11_lesson 43 = .ok (.iadd, 1) := by decide +kernel
theorem dX11_lesson_44 : decode cX11_lesson 44 = .ok (.putfield 268, 3) := by decide +kernel
theorem dX11_lesson_47 : decode cX11_lesson 47 = .ok (.aload_n 0, 1) := by decide +kernel
theorem dX11_lesson_48 : decode cX11_lesson 48 = .ok (.getfield 268, 3) := by decide +kernel
theorem dX11_lesson_51 : decode cX11_lesson 51 = .ok (.ireturn, 1) := by decide +kernel
theorem dX11_unlearn_0 : decode cX11_unlearn 0 = .ok (.aload_n 0, 1) := by decide +kernel
theorem dX11_unlearn_1 : decode cX11_unlearn 1 = .ok (.getfield 268, 3) := by decide +kernel
theorem dX11_unlearn_4 : decode cX11_unlearn 4 = .ok (.istore_n 1, 1) := by decide +kernel
theorem dX11_unlearn_5 : decode cX11_unlearn 5 = .ok (.aload_n 0, 1) := by decide +kernel
theorem dX11_unlearn_6 : decode cX11_unlearn 6 = .ok (.iconst 0, 1) := by decide +kernel
theorem dX11_unlearn_7 : decode cX11_unlearn 7 = .ok (.putfield 268, 3) := by decide +kernel
theorem dX11_unlearn_10 : decode cX11_unlearn 10 = .ok (.iload_n 1, 1) := by decide +kernel
theorem dX11_unlearn_11 : decode cX11_unlearn 11 = .ok (.ireturn, 1) := by decide +kernel
theorem dX11_broughtAhead_0 : decode cX11_broughtAhead 0 = .ok (.iconst 0, 1) := by decide +kernel
theorem dX11_broughtAhead_1 : decode cX11_broughtAhead 1 = .ok (.istore_n 3, 1) := by decide +kernel
theorem dX11_broughtAhead_2 : decode cX11_broughtAhead 2 = .ok (.iconst 0, 1) := by decide +kernel
theorem dX11_broughtAhead_3 : decode cX11_broughtAhead 3 = .ok (.istore 4, 2) := by decide +kernel
theorem dX11_broughtAhead_5 : decode cX11_broughtAhead 5 = .ok (.iload 4, 2) := by decide +kernel
theorem dX11_broughtAhead_7 : decode cX11_broughtAhead 7 = .ok (.iload_n 2, 1) := by decide +kernel
theorem dX11_broughtAhead_8 : decode cX11_broughtAhead 8 = .ok (.if_icmp .ge 23, 3) := by decide +kernel
theorem dX11_broughtAhead_11 : decode cX11_broughtAhead 11 = .ok (.iload_n 3, 1) := by decide +kernel
theorem dX11_broughtAhead_12 : decode cX11_broughtAhead 12 = .ok (.aload_n 0, 1) := by decide +kernel
theorem dX11_broughtAhead_13 : decode cX11_broughtAhead 13 = .ok (.getfield 97, 3) := by decide +kernel
theorem dX11_broughtAhead_16 : decode cX11_broughtAhead 16 = .ok (.iconst 3, 1) := by decide +kernel
theorem dX11_broughtAhead_17 : decode cX11_broughtAhead 17 = .ok (.iload 4, 2) := by decide +kernel
theorem dX11_broughtAhead_19 : decode cX11_broughtAhead 19 = .ok (.imul, 1) := by decide +kernel
theorem dX11_broughtAhead_20 : decode cX11_broughtAhead 20 = .ok (.iload_n 1, 1) := by decide +kernel
theorem dX11_broughtAhead_21 : decode cX11_broughtAhead 21 = .ok (.iadd, 1) := by decide +kernel
theorem dX11_broughtAhead_22 : decode cX11_broughtAhead 22 = .ok (.iaload, 1) := by decide +kernel
theorem dX11_broughtAhead_23 : decode cX11_broughtAhead 23 = .ok (.iadd, 1) := by decide +kernel
theorem dX11_broughtAhead_24 : decode cX11_broughtAhead 24 = .ok (.istore_n 3, 1) := by decide +kernel
theorem dX11_broughtAhead_25 : decode cX11_broughtAhead 25 = .ok (.iinc 4 1, 3) := by decide +kernel
theorem dX11_broughtAhead_28 : decode cX11_broughtAhead 28 = .ok (.goto (-23), 3) := by decide +kernel
theorem dX11_broughtAhead_31 : decode cX11_broughtAhead 31 = .ok (.iload_n 3, 1) := by decide +kernel
theorem dX11_broughtAhead_32 : decode cX11_broughtAhead 32 = .ok (.ireturn, 1) := by decide +kernel
theorem dX11_bestAhead_0 : decode cX11_bestAhead 0 = .ok (.iconst 0, 1) := by decide +kernel
theorem dX11_bestAhead_1 : decode cX11_bestAhead 1 = .ok (.istore_n 2, 1) := by decide +kernel
theorem dX11_bestAhead_2 : decode cX11_bestAhead 2 = .ok (.iconst 1, 1) := by decide +kernel
theorem dX11_bestAhead_3 : decode cX11_bestAhead 3 = .ok (.istore_n 3, 1) := by decide +kernel
theorem dX11_bestAhead_4 : decode cX11_bestAhead 4 = .ok (.iload_n 3, 1) := by decide +kernel
theorem dX11_bestAhead_5 : decode cX11_bestAhead 5 = .ok (.iconst 3, 1) := by decide +kernel
theorem dX11_bestAhead_6 : decode cX11_bestAhead 6 = .ok (.if_icmp .ge 30, 3) := by decide +kernel
theorem dX11_bestAhead_9 : decode cX11_bestAhead 9 = .ok (.aload_n 0, 1) := by decide +kernel
theorem dX11_bestAhead_10 : decode cX11_bestAhead 10 = .ok (.iload_n 3, 1) := by decide +kernel
theorem dX11_bestAhead_11 : decode cX11_bestAhead 11 = .ok (.iload_n 1, 1) := by decide +kernel
theorem dX11_bestAhead_12 : decode cX11_bestAhead 12 = .ok (.invokevirtual 271, 3) := by decide +kernel
theorem dX11_bestAhead_15 : decode cX11_bestAhead 15 = .ok (.aload_n 0, 1) := by decide +kernel
theorem dX11_bestAhead_16 : decode cX11_bestAhead 16 = .ok (.iload_n 2, 1) := by decide +kernel
theorem dX11_bestAhead_17 : decode cX11_bestAhead 17 = .ok (.iload_n 1, 1) := by decide +kernel
theorem dX11_bestAhead_18 : decode cX11_bestAhead 18 = .ok (.invokevirtual 271, 3) := by decide +kernel
theorem dX11_bestAhead_21 : decode cX11_bestAhead 21 = .ok (.if_icmp .le 7, 3) := by decide +kernel
theorem dX11_bestAhead_24 : decode cX11_bestAhead 24 = .ok (.iload_n 3, 1) := by decide +kernel
theorem dX11_bestAhead_25 : decode cX11_bestAhead 25 = .ok (.goto 4, 3) := by decide +kernel
theorem dX11_bestAhead_28 : decode cX11_bestAhead 28 = .ok (.iload_n 2, 1) := by decide +kernel
theorem dX11_bestAhead_29 : decode cX11_bestAhead 29 = .ok (.istore_n 2, 1) := by decide +kernel
theorem dX11_bestAhead_30 : decode cX11_bestAhead 30 = .ok (.iinc 3 1, 3) := by decide +kernel
theorem dX11_bestAhead_33 : decode cX11_bestAhead 33 = .ok (.goto (-29), 3) := by decide +kernel
theorem dX11_bestAhead_36 : decode cX11_bestAhead 36 = .ok (.iload_n 2, 1) := by decide +kernel
theorem dX11_bestAhead_37 : decode cX11_bestAhead 37 = .ok (.ireturn, 1) := by decide +kernel
theorem dX11_learn_0 : decode cX11_learn 0 = .ok (.aload_n 0, 1) := by decide +kernel
theorem dX11_learn_1 : decode cX11_learn 1 = .ok (.iload_n 1, 1) := by decide +kernel
theorem dX11_learn_2 : decode cX11_learn 2 = .ok (.invokevirtual 123, 3) := by decide +kernel
theorem dX11_learn_5 : decode cX11_learn 5 = .ok (.ifCond .ne 6, 3) := by decide +kernel
theorem dX11_learn_8 : decode cX11_learn 8 = .ok (.ldc 253, 2) := by decide +kernel
theorem dX11_learn_10 : decode cX11_learn 10 = .ok (.ireturn, 1) := by decide +kernel
theorem dX11_learn_11 : decode cX11_learn 11 = .ok (.iload_n 2, 1) := by decide +kernel
theorem dX11_learn_12 : decode cX11_learn 12 = .ok (.i2l, 1) := by decide +kernel
theorem dX11_learn_13 : decode cX11_learn 13 = .ok (.lconst 0, 1) := by decide +kernel
theorem dX11_learn_14 : decode cX11_learn 14 = .ok (.ldc2_w 274, 3) := by decide +kernel
theorem dX11_learn_17 : decode cX11_learn 17 = .ok (.invokestatic 110, 3) := by decide +kernel
theorem dX11_learn_20 : decode cX11_learn 20 = .ok (.ifCond .eq 29, 3) := by decide +kernel
theorem dX11_learn_23 : decode cX11_learn 23 = .ok (.iload_n 3, 1) := by decide +kernel
theorem dX11_learn_24 : decode cX11_learn 24 = .ok (.i2l, 1) := by decide +kernel
theorem dX11_learn_25 : decode cX11_learn 25 = .ok (.lconst 0, 1) := by decide +kernel
theorem dX11_learn_26 : decode cX11_learn 26 = .ok (.ldc2_w 119, 3) := by decide +kernel
theorem dX11_learn_29 : decode cX11_learn 29 = .ok (.invokestatic 110, 3) := by decide +kernel
theorem dX11_learn_32 : decode cX11_learn 32 = .ok (.ifCond .ne 21, 3) := by decide +kernel
theorem dX11_learn_35 : decode cX11_learn 35 = .ok (.iload_n 3, 1) := by decide +kernel
theorem dX11_learn_36 : decode cX11_learn 36 = .ok (.i2l, 1) := by decide +kernel
theorem dX11_learn_37 : decode cX11_learn 37 = .ok (.ldc2_w 219, 3) := by decide +kernel
theorem dX11_learn_40 : decode cX11_learn 40 = .ok (.ldc2_w 221, 3) := by decide +kernel
theorem dX11_learn_43 : decode cX11_learn 43 = .ok (.invokestatic 110, 3) := by decide +kernel
theorem dX11_learn_46 : decode cX11_learn 46 = .ok (.ifCond .ne 7, 3) := by decide +kernel
theorem dX11_learn_49 : decode cX11_learn 49 = .ok (.ldc_w 257, 3) := by decide +kernel
theorem dX11_learn_52 : decode cX11_learn 52 = .ok (.ireturn, 1) := by decide +kernel
theorem dX11_learn_53 : decode cX11_learn 53 = .ok (.aload_n 0, 1) := by decide +kernel
theorem dX11_learn_54 : decode cX11_learn 54 = .ok (.invokevirtual 182, 3) := by decide +kernel
theorem dX11_learn_57 : decode cX11_learn 57 = .ok (.aload_n 0, 1) := by decide +kernel
theorem dX11_learn_58 : decode cX11_learn 58 = .ok (.getfield 25, 3) := by decide +kernel
theorem dX11_learn_61 : decode cX11_learn 61 = .ok (.iload_n 1, 1) := by decide +kernel
theorem dX11_learn_62 : decode cX11_learn 62 = .ok (.iaload, 1) := by decide +kernel
theorem dX11_learn_63 : decode cX11_learn 63 = .ok (.istore 4, 2) := by decide +kernel
theorem dX11_learn_65 : decode cX11_learn 65 = .ok (.iconst 0, 1) := by decide +kernel
theorem dX11_learn_66 : decode cX11_learn 66 = .ok (.istore 5, 2) := by decide +kernel
theorem dX11_learn_68 : decode cX11_learn 68 = .ok (.iload 5, 2) := by decide +kernel
theorem dX11_learn_70 : decode cX11_learn 70 = .ok (.aload_n 0, 1) := by decide +kernel
theorem dX11_learn_71 : decode cX11_learn 71 = .ok (.getfield 268, 3) := by decide +kernel
theorem dX11_learn_74 : decode cX11_learn 74 = .ok (.if_icmp .ge 61, 3) := by decide +kernel
theorem dX11_learn_77 : decode cX11_learn 77 = .ok (.iconst 0, 1) := by decide +kernel
theorem dX11_learn_78 : decode cX11_learn 78 = .ok (.istore 6, 2) := by decide +kernel
theorem dX11_learn_80 : decode cX11_learn 80 = .ok (.iload 6, 2) := by decide +kernel
theorem dX11_learn_82 : decode cX11_learn 82 = .ok (.iconst 3, 1) := by decide +kernel
theorem dX11_learn_83 : decode cX11_learn 83 = .ok (.if_icmp .ge 46, 3) := by decide +kernel
theorem dX11_learn_86 : decode cX11_learn 86 = .ok (.aload_n 0, 1) := by decide +kernel
theorem dX11_learn_87 : decode cX11_learn 87 = .ok (.getfield 25, 3) := by decide +kernel
theorem dX11_learn_90 : decode cX11_learn 90 = .ok (.iload_n 1, 1) := by decide +kernel
theorem dX11_learn_91 : decode cX11_learn 91 = .ok (.iload_n 2, 1) := by decide +kernel
theorem dX11_learn_92 : decode cX11_learn 92 = .ok (.bipush 10, 2) := by decide +kernel
theorem dX11_learn_94 : decode cX11_learn 94 = .ok (.iload 6, 2) := by decide +kernel
theorem dX11_learn_96 : decode cX11_learn 96 = .ok (.imul, 1) := by decide +kernel
theorem dX11_learn_97 : decode cX11_learn 97 = .ok (.iadd, 1) := by decide +kernel
theorem dX11_learn_98 : decode cX11_learn 98 = .ok (.iastore, 1) := by decide +kernel
theorem dX11_learn_99 : decode cX11_learn 99 = .ok (.aload_n 0, 1) := by decide +kernel
theorem dX11_learn_100 : decode cX11_learn 100 = .ok (.getfield 97, 3) := by decide +kernel
theorem dX11_learn_103 : decode cX11_learn 103 = .ok (.iconst 3, 1) := by decide +kernel
theorem dX11_learn_104 : decode cX11_learn 104 = .ok (.iload 5, 2) := by decide +kernel
theorem dX11_learn_106 : decode cX11_learn 106 = .ok (.imul, 1) := by decide +kernel
theorem dX11_learn_107 : decode cX11_learn 107 = .ok (.iload 6, 2) := by decide +kernel
theorem dX11_learn_109 : decode cX11_learn 109 = .ok (.iadd, 1) := by decide +kernel
theorem dX11_learn_110 : decode cX11_learn 110 = .ok (.aload_n 0, 1) := by decide +kernel
theorem dX11_learn_111 : decode cX11_learn 111 = .ok (.iload_n 1, 1) := by decide +kernel
theorem dX11_learn_112 : decode cX11_learn 112 = .ok (.aload_n 0, 1) := by decide +kernel
theorem dX11_learn_113 : decode cX11_learn 113 = .ok (.getfield 94, 3) := by decide +kernel
theorem dX11_learn_116 : decode cX11_learn 116 = .ok (.iload 5, 2) := by decide +kernel
theorem dX11_learn_118 : decode cX11_learn 118 = .ok (.iaload, 1) := by decide +kernel
theorem dX11_learn_119 : decode cX11_learn 119 = .ok (.invokevirtual 254, 3) := by decide +kernel
theorem dX11_learn_122 : decode cX11_learn 122 = .ok (.iastore, 1) := by decide +kernel
theorem dX11_learn_123 : decode cX11_learn 123 = .ok (.iinc 6 1, 3) := by decide +kernel
theorem dX11_learn_126 : decode cX11_learn 126 = .ok (.goto (-46), 3) := by decide +kernel
theorem dX11_learn_129 : decode cX11_learn 129 = .ok (.iinc 5 1, 3) := by decide +kernel
theorem dX11_learn_132 : decode cX11_learn 132 = .ok (.goto (-64), 3) := by decide +kernel
theorem dX11_learn_135 : decode cX11_learn 135 = .ok (.aload_n 0, 1) := by decide +kernel
theorem dX11_learn_136 : decode cX11_learn 136 = .ok (.getfield 25, 3) := by decide +kernel
theorem dX11_learn_139 : decode cX11_learn 139 = .ok (.iload_n 1, 1) := by decide +kernel
theorem dX11_learn_140 : decode cX11_learn 140 = .ok (.iload 4, 2) := by decide +kernel
theorem dX11_learn_142 : decode cX11_learn 142 = .ok (.iastore, 1) := by decide +kernel
theorem dX11_learn_143 : decode cX11_learn 143 = .ok (.iconst 0, 1) := by decide +kernel
theorem dX11_learn_144 : decode cX11_learn 144 = .ok (.istore 5, 2) := by decide +kernel
theorem dX11_learn_146 : decode cX11_learn 146 = .ok (.iconst 0, 1) := by decide +kernel
theorem dX11_learn_147 : decode cX11_learn 147 = .ok (.istore 6, 2) := by decide +kernel
theorem dX11_learn_149 : decode cX11_learn 149 = .ok (.iload 6, 2) := by decide +kernel
theorem dX11_learn_151 : decode cX11_learn 151 = .ok (.aload_n 0, 1) := by decide +kernel
theorem dX11_learn_152 : decode cX11_learn 152 = .ok (.getfield 268, 3) := by decide +kernel
theorem dX11_learn_155 : decode cX11_learn 155 = .ok (.if_icmp .ge 44, 3) := by decide +kernel
theorem dX11_learn_158 : decode cX11_learn 158 = .ok (.aload_n 0, 1) := by decide +kernel
theorem dX11_learn_159 : decode cX11_learn 159 = .ok (.getfield 100, 3) := by decide +kernel
theorem dX11_learn_162 : decode cX11_learn 162 = .ok (.iload 6, 2) := by decide +kernel
theorem dX11_learn_164 : decode cX11_learn 164 = .ok (.aload_n 0, 1) := by decide +kernel
theorem dX11_learn_165 : decode cX11_learn 165 = .ok (.iload 6, 2) := by decide +kernel
theorem dX11_learn_167 : decode cX11_learn 167 = .ok (.invokevirtual 276, 3) := by decide +kernel
theorem dX11_learn_170 : decode cX11_learn 170 = .ok (.iastore, 1) := by decide +kernel
theorem dX11_learn_171 : decode cX11_learn 171 = .ok (.iload 5, 2) := by decide +kernel
theorem dX11_learn_173 : decode cX11_learn 173 = .ok (.aload_n 0, 1) := by decide +kernel
theorem dX11_learn_174 : decode cX11_learn 174 = .ok (.getfield 97, 3) := by decide +kernel
theorem dX11_learn_177 : decode cX11_learn 177 = .ok (.iconst 3, 1) := by decide +kernel
theorem dX11_learn_178 : decode cX11_learn 178 = .ok (.iload 6, 2) := by decide +kernel
theorem dX11_learn_180 : decode cX11_learn 180 = .ok (.imul, 1) := by decide +kernel
theorem dX11_learn_181 : decode cX11_learn 181 = .ok (.aload_n 0, 1) := by decide +kernel
theorem dX11_learn_182 : decode cX11_learn 182 = .ok (.getfield 100, 3) := by decide +kernel
theorem dX11_learn_185 : decode cX11_learn 185 = .ok (.iload 6, 2) := by decide +kernel
theorem dX11_learn_187 : decode cX11_learn 187 = .ok (.iaload, 1) := by decide +kernel
theorem dX11_learn_188 : decode cX11_learn 188 = .ok (.iadd, 1) := by decide +kernel
theorem dX11_learn_189 : decode cX11_learn 189 = .ok (.iaload, 1) := by decide +kernel
theorem dX11_learn_190 : decode cX11_learn 190 = .ok (.iadd, 1) := by decide +kernel
theorem dX11_learn_191 : decode cX11_learn 191 = .ok (.istore 5, 2) := by decide +kernel
theorem dX11_learn_193 : decode cX11_learn 193 = .ok (.iinc 6 1, 3) := by decide +kernel
theorem dX11_learn_196 : decode cX11_learn 196 = .ok (.goto (-47), 3) := by decide +kernel
theorem dX11_learn_199 : decode cX11_learn 199 = .ok (.iload_n 3, 1) := by decide +kernel
theorem dX11_learn_200 : decode cX11_learn 200 = .ok (.bipush 9, 2) := by decide +kernel
theorem dX11_learn_202 : decode cX11_learn 202 = .ok (.if_icmp .le 34, 3) := by decide +kernel
theorem dX11_learn_205 : decode cX11_learn 205 = .ok (.iload_n 3, 1) := by decide +kernel
theorem dX11_learn_206 : decode cX11_learn 206 = .ok (.bipush 10, 2) := by decide +kernel
theorem dX11_learn_208 : decode cX11_learn 208 = .ok (.isub, 1) := by decide +kernel
theorem dX11_learn_209 : decode cX11_learn 209 = .ok (.aload_n 0, 1) := by decide +kernel
theorem dX11_learn_210 : decode cX11_learn 210 = .ok (.getfield 268, 3) := by decide +kernel
theorem dX11_learn_213 : decode cX11_learn 213 = .ok (.if_icmp .ge 20, 3) := by decide +kernel
theorem dX11_learn_216 : decode cX11_learn 216 = .ok (.iload_n 2, 1) := by decide +kernel
theorem dX11_learn_217 : decode cX11_learn 217 = .ok (.bipush 10, 2) := by decide +kernel
theorem dX11_learn_219 : decode cX11_learn 219 = .ok (.aload_n 0, 1) := by decide +kernel
theorem dX11_learn_220 : decode cX11_learn 220 = .ok (.getfield 100, 3) := by decide +kernel
theorem dX11_learn_223 : decode cX11_learn 223 = .ok (.iload_n 3, 1) := by decide +kernel
theorem dX11_learn_224 : decode cX11_learn 224 = .ok (.bipush 10, 2) := by decide +kernel
theorem dX11_learn_226 : decode cX11_learn 226 = .ok (.isub, 1) := by decide +kernel
theorem dX11_learn_227 : decode cX11_learn 227 = .ok (.iaload, 1) := by decide +kernel
theorem dX11_learn_228 : decode cX11_learn 228 = .ok (.imul, 1) := by decide +kernel
theorem dX11_learn_229 : decode cX11_learn 229 = .ok (.iadd, 1) := by decide +kernel
theorem dX11_learn_230 : decode cX11_learn 230 = .ok (.goto 5, 3) := by decide +kernel
theorem dX11_learn_233 : decode cX11_learn 233 = .ok (.bipush (-6), 2) := by decide +kernel
theorem dX11_learn_235 : decode cX11_learn 235 = .ok (.ireturn, 1) := by decide +kernel
theorem dX11_learn_236 : decode cX11_learn 236 = .ok (.aload_n 0, 1) := by decide +kernel
theorem dX11_learn_237 : decode cX11_learn 237 = .ok (.aload_n 0, 1) := by decide +kernel
theorem dX11_learn_238 : decode cX11_learn 238 = .ok (.aload_n 0, 1) := by decide +kernel
theorem dX11_learn_239 : decode cX11_learn 239 = .ok (.getfield 268, 3) := by decide +kernel
theorem dX11_learn_242 : decode cX11_learn 242 = .ok (.invokevirtual 276, 3) := by decide +kernel
theorem dX11_learn_245 : decode cX11_learn 245 = .ok (.aload_n 0, 1) := by decide +kernel
theorem dX11_learn_246 : decode cX11_learn 246 = .ok (.getfield 268, 3) := by decide +kernel
theorem dX11_learn_249 : decode cX11_learn 249 = .ok (.invokevirtual 271, 3) := by decide +kernel
theorem dX11_learn_252 : decode cX11_learn 252 = .ok (.istore 6, 2) := by decide +kernel
theorem dX11_learn_254 : decode cX11_learn 254 = .ok (.iload_n 3, 1) := by decide +kernel
theorem dX11_learn_255 : decode cX11_learn 255 = .ok (.ifCond .ne 8, 3) := by decide +kernel
theorem dX11_learn_258 : decode cX11_learn 258 = .ok (.iload 5, 2) := by decide +kernel
theorem dX11_learn_260 : decode cX11_learn 260 = .ok (.goto 18, 3) := by decide +kernel
theorem dX11_learn_263 : decode cX11_learn 263 = .ok (.iload_n 3, 1) := by decide +kernel
theorem dX11_learn_264 : decode cX11_learn 264 = .ok (.iconst 1, 1) := by decide +kernel
theorem dX11_learn_265 : decode cX11_learn 265 = .ok (.if_icmp .ne 8, 3) := by decide +kernel
theorem dX11_learn_268 : decode cX11_learn 268 = .ok (.iload 6, 2) := by decide +kernel
theorem dX11_learn_270 : decode cX11_learn 270 = .ok (.goto 8, 3) := by decide +kernel
theorem dX11_learn_273 : decode cX11_learn 273 = .ok (.iload 6, 2) := by decide +kernel
theorem dX11_learn_275 : decode cX11_learn 275 = .ok (.iload 5, 2) := by decide +kernel
theorem dX11_learn_277 : decode cX11_learn 277 = .ok (.isub, 1) := by decide +kernel
theorem dX11_learn_278 : decode cX11_learn 278 = .ok (.ireturn, 1) := by decide +kernel
theorem dX11_told_0 : decode cX11_told 0 = .ok (.iload_n 1, 1) := by decide +kernel
theorem dX11_told_1 : decode cX11_told 1 = .ok (.i2l, 1) := by decide +kernel
theorem dX11_told_2 : decode cX11_told 2 = .ok (.ldc2_w 219, 3) := by decide +kernel
theorem dX11_told_5 : decode cX11_told 5 = .ok (.ldc2_w 244, 3) := by decide +kernel
theorem dX11_told_8 : decode cX11_told 8 = .ok (.invokestatic 110, 3) := by decide +kernel
theorem dX11_told_11 : decode cX11_told 11 = .ok (.ifCond .eq 28, 3) := by decide +kernel
theorem dX11_told_14 : decode cX11_told 14 = .ok (.iload_n 1, 1) := by decide +kernel
theorem dX11_told_15 : decode cX11_told 15 = .ok (.bipush 10, 2) := by decide +kernel
theorem dX11_told_17 : decode cX11_told 17 = .ok (.isub, 1) := by decide +kernel
theorem dX11_told_18 : decode cX11_told 18 = .ok (.aload_n 0, 1) := by decide +kernel
theorem dX11_told_19 : decode cX11_told 19 = .ok (.getfield 114, 3) := by decide +kernel
theorem dX11_told_22 : decode cX11_told 22 = .ok (.if_icmp .ge 15, 3) := by decide +kernel
theorem dX11_told_25 : decode cX11_told 25 = .ok (.aload_n 0, 1) := by decide +kernel
theorem dX11_told_26 : decode cX11_told 26 = .ok (.getfield 40, 3) := by decide +kernel
theorem dX11_told_29 : decode cX11_told 29 = .ok (.iload_n 1, 1) := by decide +kernel
theorem dX11_told_30 : decode cX11_told 30 = .ok (.bipush 10, 2) := by decide +kernel
theorem dX11_told_32 : decode cX11_told 32 = .ok (.isub, 1) := by decide +kernel
theorem dX11_told_33 : decode cX11_told 33 = .ok (.iaload, 1) := by decide +kernel
theorem dX11_told_34 : decode cX11_told 34 = .ok (.goto 4, 3) := by decide +kernel
theorem dX11_told_37 : decode cX11_told 37 = .ok (.iconst 0, 1) := by decide +kernel
theorem dX11_told_38 : decode cX11_told 38 = .ok (.ireturn, 1) := by decide +kernel
theorem dX11_told_39 : decode cX11_told 39 = .ok (.iload_n 1, 1) := by decide +kernel
theorem dX11_told_40 : decode cX11_told 40 = .ok (.tableswitch 61 0 4 #[36, 41, 46, 51, 56], 36) := by decide +kernel
theorem dX11_told_76 : decode cX11_told 76 = .ok (.aload_n 0, 1) := by decide +kernel
theorem dX11_told_77 : decode cX11_told 77 = .ok (.getfield 107, 3) := by decide +kernel
theorem dX11_told_80 : decode cX11_told 80 = .ok (.ireturn, 1) := by decide +kernel
theorem dX11_told_81 : decode cX11_told 81 = .ok (.aload_n 0, 1) := by decide +kernel
theorem dX11_told_82 : decode cX11_told 82 = .ok (.getfield 114, 3) := by decide +kernel
theorem dX11_told_85 : decode cX11_told 85 = .ok (.ireturn, 1) := by decide +kernel
theorem dX11_told_86 : decode cX11_told 86 = .ok (.aload_n 0, 1) := by decide +kernel
theorem dX11_told_87 : decode cX11_told 87 = .ok (.getfield 135, 3) := by decide +kernel
theorem dX11_told_90 : decode cX11_told 90 = .ok (.ireturn, 1) := by decide +kernel
theorem dX11_told_91 : decode cX11_told 91 = .ok (.aload_n 0, 1) := by decide +kernel
theorem dX11_told_92 : decode cX11_told 92 = .ok (.getfield 268, 3) := by decide +kernel
theorem dX11_told_95 : decode cX11_told 95 = .ok (.ireturn, 1) := by decide +kernel
theorem dX11_told_96 : decode cX11_told 96 = .ok (.aload_n 0, 1) := by decide +kernel
theorem dX11_told_97 : decode cX11_told 97 = .ok (.getfield 103, 3) := by decide +kernel
theorem dX11_told_100 : decode cX11_told 100 = .ok (.ireturn, 1) := by decide +kernel
theorem dX11_told_101 : decode cX11_told 101 = .ok (.bipush (-2), 2) := by decide +kernel
theorem dX11_told_103 : decode cX11_told 103 = .ok (.ireturn, 1) := by decide +kernel
