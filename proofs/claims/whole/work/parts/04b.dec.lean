theorem dX7_init_0 : decode cX7_init 0 = .ok (.aload_n 0, 1) := by decide +kernel
theorem dX7_init_1 : decode cX7_init 1 = .ok (.invokespecial 1, 3) := by decide +kernel
theorem dX7_init_4 : decode cX7_init 4 = .ok (.aload_n 0, 1) := by decide +kernel
theorem dX7_init_5 : decode cX7_init 5 = .ok (.sipush 240, 3) := by decide +kernel
theorem dX7_init_8 : decode cX7_init 8 = .ok (.newarray .int, 2) := by decide +kernel
theorem dX7_init_10 : decode cX7_init 10 = .ok (.putfield 7, 3) := by decide +kernel
theorem dX7_init_13 : decode cX7_init 13 = .ok (.aload_n 0, 1) := by decide +kernel
theorem dX7_init_14 : decode cX7_init 14 = .ok (.bipush 6, 2) := by decide +kernel
theorem dX7_init_16 : decode cX7_init 16 = .ok (.newarray .int, 2) := by decide +kernel
theorem dX7_init_18 : decode cX7_init 18 = .ok (.putfield 13, 3) := by decide +kernel
theorem dX7_init_21 : decode cX7_init 21 = .ok (.aload_n 0, 1) := by decide +kernel
theorem dX7_init_22 : decode cX7_init 22 = .ok (.bipush 6, 2) := by decide +kernel
theorem dX7_init_24 : decode cX7_init 24 = .ok (.newarray .boolean, 2) := by decide +kernel
theorem dX7_init_26 : decode cX7_init 26 = .ok (.putfield 16, 3) := by decide +kernel
theorem dX7_init_29 : decode cX7_init 29 = .ok (.aload_n 0, 1) := by decide +kernel
theorem dX7_init_30 : decode cX7_init 30 = .ok (.bipush 6, 2) := by decide +kernel
theorem dX7_init_32 : decode cX7_init 32 = .ok (.newarray .int, 2) := by decide +kernel
theorem dX7_init_34 : decode cX7_init 34 = .ok (.putfield 20, 3) := by decide +kernel
theorem dX7_init_37 : decode cX7_init 37 = .ok (.aload_n 0, 1) := by decide +kernel
theorem dX7_init_38 : decode cX7_init 38 = .ok (.bipush 6, 2) := by decide +kernel
theorem dX7_init_40 : decode cX7_init 40 = .ok (.newarray .int, 2) := by decide +kernel
theorem dX7_init_42 : decode cX7_init 42 = .ok (.putfield 23, 3) := by decide +kernel
theorem dX7_init_45 : decode cX7_init 45 = .ok (.aload_n 0, 1) := by decide +kernel
theorem dX7_init_46 : decode cX7_init 46 = .ok (.bipush 72, 2) := by decide +kernel
theorem dX7_init_48 : decode cX7_init 48 = .ok (.newarray .int, 2) := by decide +kernel
theorem dX7_init_50 : decode cX7_init 50 = .ok (.putfield 26, 3) := by decide +kernel
theorem dX7_init_53 : decode cX7_init 53 = .ok (.aload_n 0, 1) := by decide +kernel
theorem dX7_init_54 : decode cX7_init 54 = .ok (.bipush 72, 2) := by decide +kernel
theorem dX7_init_56 : decode cX7_init 56 = .ok (.newarray .int, 2) := by decide +kernel
theorem dX7_init_58 : decode cX7_init 58 = .ok (.putfield 29, 3) := by decide +kernel
theorem dX7_init_61 : decode cX7_init 61 = .ok (.aload_n 0, 1) := by decide +kernel
theorem dX7_init_62 : decode cX7_init 62 = .ok (.bipush 78, 2) := by decide +kernel
theorem dX7_init_64 : decode cX7_init 64 = .ok (.newarray .int, 2) := by decide +kernel
theorem dX7_init_66 : decode cX7_init 66 = .ok (.putfield 32, 3) := by decide +kernel
theorem dX7_init_69 : decode cX7_init 69 = .ok (.aload_n 0, 1) := by decide +kernel
theorem dX7_init_70 : decode cX7_init 70 = .ok (.bipush 78, 2) := by decide +kernel
theorem dX7_init_72 : decode cX7_init 72 = .ok (.newarray .int, 2) := by decide +kernel
theorem dX7_init_74 : decode cX7_init 74 = .ok (.putfield 35, 3) := by decide +kernel
theorem dX7_init_77 : decode cX7_init 77 = .ok (.aload_n 0, 1) := by decide +kernel
theorem dX7_init_78 : decode cX7_init 78 = .ok (.bipush 78, 2) := by decide +kernel
theorem dX7_init_80 : decode cX7_init 80 = .ok (.newarray .int, 2) := by decide +kernel
theorem dX7_init_82 : decode cX7_init 82 = .ok (.putfield 38, 3) := by decide +kernel
theorem dX7_init_85 : decode cX7_init 85 = .ok (.aload_n 0, 1) := by decide +kernel
theorem dX7_init_86 : decode cX7_init 86 = .ok (.bipush 78, 2) := by decide +kernel
theorem dX7_init_88 : decode cX7_init 88 = .ok (.newarray .int, 2) := by decide +kernel
theorem dX7_init_90 : decode cX7_init 90 = .ok (.putfield 41, 3) := by decide +kernel
theorem dX7_init_93 : decode cX7_init 93 = .ok (.aload_n 0, 1) := by decide +kernel
theorem dX7_init_94 : decode cX7_init 94 = .ok (.bipush 78, 2) := by decide +kernel
theorem dX7_init_96 : decode cX7_init 96 = .ok (.newarray .int, 2) := by decide +kernel
theorem dX7_init_98 : decode cX7_init 98 = .ok (.putfield 44, 3) := by decide +kernel
theorem dX7_init_101 : decode cX7_init 101 = .ok (.aload_n 0, 1) := by decide +kernel
theorem dX7_init_102 : decode cX7_init 102 = .ok (.bipush 6, 2) := by decide +kernel
theorem dX7_init_104 : decode cX7_init 104 = .ok (.newarray .int, 2) := by decide +kernel
theorem dX7_init_106 : decode cX7_init 106 = .ok (.putfield 47, 3) := by decide +kernel
theorem dX7_init_109 : decode cX7_init 109 = .ok (.aload_n 0, 1) := by decide +kernel
theorem dX7_init_110 : decode cX7_init 110 = .ok (.bipush 6, 2) := by decide +kernel
theorem dX7_init_112 : decode cX7_init 112 = .ok (.newarray .boolean, 2) := by decide +kernel
theorem dX7_init_114 : decode cX7_init 114 = .ok (.putfield 50, 3) := by decide +kernel
theorem dX7_init_117 : decode cX7_init 117 = .ok (.aload_n 0, 1) := by decide +kernel
theorem dX7_init_118 : decode cX7_init 118 = .ok (.bipush 120, 2) := by decide +kernel
theorem dX7_init_120 : decode cX7_init 120 = .ok (.newarray .int, 2) := by decide +kernel
theorem dX7_init_122 : decode cX7_init 122 = .ok (.putfield 53, 3) := by decide +kernel
theorem dX7_init_125 : decode cX7_init 125 = .ok (.aload_n 0, 1) := by decide +kernel
theorem dX7_init_126 : decode cX7_init 126 = .ok (.bipush 120, 2) := by decide +kernel
theorem dX7_init_128 : decode cX7_init 128 = .ok (.newarray .int, 2) := by decide +kernel
theorem dX7_init_130 : decode cX7_init 130 = .ok (.putfield 56, 3) := by decide +kernel
theorem dX7_init_133 : decode cX7_init 133 = .ok (.aload_n 0, 1) := by decide +kernel
theorem dX7_init_134 : decode cX7_init 134 = .ok (.bipush 6, 2) := by decide +kernel
theorem dX7_init_136 : decode cX7_init 136 = .ok (.newarray .int, 2) := by decide +kernel
theorem dX7_init_138 : decode cX7_init 138 = .ok (.putfield 59, 3) := by decide +kernel
theorem dX7_init_141 : decode cX7_init 141 = .ok (.aload_n 0, 1) := by decide +kernel
theorem dX7_init_142 : decode cX7_init 142 = .ok (.sipush 2880, 3) := by decide +kernel
theorem dX7_init_145 : decode cX7_init 145 = .ok (.newarray .int, 2) := by decide +kernel
theorem dX7_init_147 : decode cX7_init 147 = .ok (.putfield 62, 3) := by decide +kernel
theorem dX7_init_150 : decode cX7_init 150 = .ok (.aload_n 0, 1) := by decide +kernel
theorem dX7_init_151 : decode cX7_init 151 = .ok (.sipush 2880, 3) := by decide +kernel
theorem dX7_init_154 : decode cX7_init 154 = .ok (.newarray .int, 2) := by decide +kernel
theorem dX7_init_156 : decode cX7_init 156 = .ok (.putfield 65, 3) := by decide +kernel
theorem dX7_init_159 : decode cX7_init 159 = .ok (.aload_n 0, 1) := by decide +kernel
theorem dX7_init_160 : decode cX7_init 160 = .ok (.sipush 2880, 3) := by decide +kernel
theorem dX7_init_163 : decode cX7_init 163 = .ok (.newarray .int, 2) := by decide +kernel
theorem dX7_init_165 : decode cX7_init 165 = .ok (.putfield 68, 3) := by decide +kernel
theorem dX7_init_168 : decode cX7_init 168 = .ok (.aload_n 0, 1) := by decide +kernel
theorem dX7_init_169 : decode cX7_init 169 = .ok (.bipush 6, 2) := by decide +kernel
theorem dX7_init_171 : decode cX7_init 171 = .ok (.newarray .int, 2) := by decide +kernel
theorem dX7_init_173 : decode cX7_init 173 = .ok (.putfield 71, 3) := by decide +kernel
theorem dX7_init_176 : decode cX7_init 176 = .ok (.aload_n 0, 1) := by decide +kernel
theorem dX7_init_177 : decode cX7_init 177 = .ok (.sipush 240, 3) := by decide +kernel
theorem dX7_init_180 : decode cX7_init 180 = .ok (.newarray .int, 2) := by decide +kernel
theorem dX7_init_182 : decode cX7_init 182 = .ok (.putfield 74, 3) := by decide +kernel
theorem dX7_init_185 : decode cX7_init 185 = .ok (.aload_n 0, 1) := by decide +kernel
theorem dX7_init_186 : decode cX7_init 186 = .ok (.bipush 6, 2) := by decide +kernel
theorem dX7_init_188 : decode cX7_init 188 = .ok (.newarray .int, 2) := by decide +kernel
theorem dX7_init_190 : decode cX7_init 190 = .ok (.putfield 77, 3) := by decide +kernel
theorem dX7_init_193 : decode cX7_init 193 = .ok (.aload_n 0, 1) := by decide +kernel
theorem dX7_init_194 : decode cX7_init 194 = .ok (.bipush 6, 2) := by decide +kernel
theorem dX7_init_196 : decode cX7_init 196 = .ok (.newarray .int, 2) := by decide +kernel
theorem dX7_init_198 : decode cX7_init 198 = .ok (.putfield 80, 3) := by decide +kernel
theorem dX7_init_201 : decode cX7_init 201 = .ok (.aload_n 0, 1) := by decide +kernel
theorem dX7_init_202 : decode cX7_init 202 = .ok (.bipush 6, 2) := by decide +kernel
theorem dX7_init_204 : decode cX7_init 204 = .ok (.newarray .int, 2) := by decide +kernel
theorem dX7_init_206 : decode cX7_init 206 = .ok (.putfield 83, 3) := by decide +kernel
theorem dX7_init_209 : decode cX7_init 209 = .ok (.aload_n 0, 1) := by decide +kernel
theorem dX7_init_210 : decode cX7_init 210 = .ok (.sipush 144, 3) := by decide +kernel
theorem dX7_init_213 : decode cX7_init 213 = .ok (.newarray .int, 2) := by decide +kernel
theorem dX7_init_215 : decode cX7_init 215 = .ok (.putfield 86, 3) := by decide +kernel
theorem dX7_init_218 : decode cX7_init 218 = .ok (.aload_n 0, 1) := by decide +kernel
theorem dX7_init_219 : decode cX7_init 219 = .ok (.sipush 144, 3) := by decide +kernel
theorem dX7_init_222 : decode cX7_init 222 = .ok (.newarray .boolean, 2) := by decide +kernel
theorem dX7_init_224 : decode cX7_init 224 = .ok (.putfield 89, 3) := by decide +kernel
theorem dX7_init_227 : decode cX7_init 227 = .ok (.aload_n 0, 1) := by decide +kernel
theorem dX7_init_228 : decode cX7_init 228 = .ok (.sipush 144, 3) := by decide +kernel
theorem dX7_init_231 : decode cX7_init 231 = .ok (.newarray .long, 2) := by decide +kernel
theorem dX7_init_233 : decode cX7_init 233 = .ok (.putfield 92, 3) := by decide +kernel
theorem dX7_init_236 : decode cX7_init 236 = .ok (.aload_n 0, 1) := by decide +kernel
theorem dX7_init_237 : decode cX7_init 237 = .ok (.bipush 6, 2) := by decide +kernel
theorem dX7_init_239 : decode cX7_init 239 = .ok (.newarray .long, 2) := by decide +kernel
theorem dX7_init_241 : decode cX7_init 241 = .ok (.putfield 96, 3) := by decide +kernel
theorem dX7_init_244 : decode cX7_init 244 = .ok (.aload_n 0, 1) := by decide +kernel
theorem dX7_init_245 : decode cX7_init 245 = .ok (.bipush 6, 2) := by decide +kernel
theorem dX7_init_247 : decode cX7_init 247 = .ok (.newarray .long, 2) := by decide +kernel
theorem dX7_init_249 : decode cX7_init 249 = .ok (.putfield 99, 3) := by decide +kernel
theorem dX7_init_252 : decode cX7_init 252 = .ok (.aload_n 0, 1) := by decide +kernel
theorem dX7_init_253 : decode cX7_init 253 = .ok (.bipush 6, 2) := by decide +kernel
theorem dX7_init_255 : decode cX7_init 255 = .ok (.newarray .int, 2) := by decide +kernel
theorem dX7_init_257 : decode cX7_init 257 = .ok (.putfield 102, 3) := by decide +kernel
theorem dX7_init_260 : decode cX7_init 260 = .ok (.aload_n 0, 1) := by decide +kernel
theorem dX7_init_261 : decode cX7_init 261 = .ok (.bipush 6, 2) := by decide +kernel
theorem dX7_init_263 : decode cX7_init 263 = .ok (.newarray .long, 2) := by decide +kernel
theorem dX7_init_265 : decode cX7_init 265 = .ok (.putfield 105, 3) := by decide +kernel
theorem dX7_init_268 : decode cX7_init 268 = .ok (.aload_n 0, 1) := by decide +kernel
theorem dX7_init_269 : decode cX7_init 269 = .ok (.sipush 480, 3) := by decide +kernel
theorem dX7_init_272 : decode cX7_init 272 = .ok (.newarray .int, 2) := by decide +kernel
theorem dX7_init_274 : decode cX7_init 274 = .ok (.putfield 108, 3) := by decide +kernel
theorem dX7_init_277 : decode cX7_init 277 = .ok (.aload_n 0, 1) := by decide +kernel
theorem dX7_init_278 : decode cX7_init 278 = .ok (.sipush 480, 3) := by decide +kernel
theorem dX7_init_281 : decode cX7_init 281 = .ok (.newarray .int, 2) := by decide +kernel
theorem dX7_init_283 : decode cX7_init 283 = .ok (.putfield 111, 3) := by decide +kernel
theorem dX7_init_286 : decode cX7_init 286 = .ok (.return_, 1) := by decide +kernel
theorem dX7_thrown_0 : decode cX7_thrown 0 = .ok (.aload_n 0, 1) := by decide +kernel
theorem dX7_thrown_1 : decode cX7_thrown 1 = .ok (.getfield 114, 3) := by decide +kernel
theorem dX7_thrown_4 : decode cX7_thrown 4 = .ok (.ireturn, 1) := by decide +kernel
theorem dX7_isTable_0 : decode cX7_isTable 0 = .ok (.iload_n 1, 1) := by decide +kernel
theorem dX7_isTable_1 : decode cX7_isTable 1 = .ok (.ifCond .lt 15, 3) := by decide +kernel
theorem dX7_isTable_4 : decode cX7_isTable 4 = .ok (.iload_n 1, 1) := by decide +kernel
theorem dX7_isTable_5 : decode cX7_isTable 5 = .ok (.aload_n 0, 1) := by decide +kernel
theorem dX7_isTable_6 : decode cX7_isTable 6 = .ok (.getfield 118, 3) := by decide +kernel
theorem dX7_isTable_9 : decode cX7_isTable 9 = .ok (.if_icmp .ge 7, 3) := by decide +kernel
theorem dX7_isTable_12 : decode cX7_isTable 12 = .ok (.iconst 1, 1) := by decide +kernel
theorem dX7_isTable_13 : decode cX7_isTable 13 = .ok (.goto 4, 3) := by decide +kernel
theorem dX7_isTable_16 : decode cX7_isTable 16 = .ok (.iconst 0, 1) := by decide +kernel
theorem dX7_isTable_17 : decode cX7_isTable 17 = .ok (.ireturn, 1) := by decide +kernel
theorem dX7_in_0 : decode cX7_in 0 = .ok (.lload_n 0, 1) := by decide +kernel
theorem dX7_in_1 : decode cX7_in 1 = .ok (.lload_n 2, 1) := by decide +kernel
theorem dX7_in_2 : decode cX7_in 2 = .ok (.lcmp, 1) := by decide +kernel
theorem dX7_in_3 : decode cX7_in 3 = .ok (.ifCond .lt 14, 3) := by decide +kernel
theorem dX7_in_6 : decode cX7_in 6 = .ok (.lload_n 0, 1) := by decide +kernel
theorem dX7_in_7 : decode cX7_in 7 = .ok (.lload 4, 2) := by decide +kernel
theorem dX7_in_9 : decode cX7_in 9 = .ok (.lcmp, 1) := by decide +kernel
theorem dX7_in_10 : decode cX7_in 10 = .ok (.ifCond .gt 7, 3) := by decide +kernel
theorem dX7_in_13 : decode cX7_in 13 = .ok (.iconst 1, 1) := by decide +kernel
theorem dX7_in_14 : decode cX7_in 14 = .ok (.goto 4, 3) := by decide +kernel
theorem dX7_in_17 : decode cX7_in 17 = .ok (.iconst 0, 1) := by decide +kernel
theorem dX7_in_18 : decode cX7_in 18 = .ok (.ireturn, 1) := by decide +kernel
theorem dX7_table_0 : decode cX7_table 0 = .ok (.aload_n 0, 1) := by decide +kernel
theorem dX7_table_1 : decode cX7_table 1 = .ok (.iconst 0, 1) := by decide +kernel
theorem dX7_table_2 : decode cX7_table 2 = .ok (.putfield 114, 3) := by decide +kernel
theorem dX7_table_5 : decode cX7_table 5 = .ok (.aload_n 0, 1) := by decide +kernel
theorem dX7_table_6 : decode cX7_table 6 = .ok (.getfield 118, 3) := by decide +kernel
theorem dX7_table_9 : decode cX7_table 9 = .ok (.bipush 6, 2) := by decide +kernel
theorem dX7_table_11 : decode cX7_table 11 = .ok (.if_icmp .ne 6, 3) := by decide +kernel
theorem dX7_table_14 : decode cX7_table 14 = .ok (.bipush (-4), 2) := by decide +kernel
theorem dX7_table_16 : decode cX7_table 16 = .ok (.ireturn, 1) := by decide +kernel
theorem dX7_table_17 : decode cX7_table 17 = .ok (.aload_n 0, 1) := by decide +kernel
theorem dX7_table_18 : decode cX7_table 18 = .ok (.getfield 23, 3) := by decide +kernel
theorem dX7_table_21 : decode cX7_table 21 = .ok (.aload_n 0, 1) := by decide +kernel
theorem dX7_table_22 : decode cX7_table 22 = .ok (.getfield 118, 3) := by decide +kernel
theorem dX7_table_25 : decode cX7_table 25 = .ok (.iconst (-1), 1) := by decide +kernel
theorem dX7_table_26 : decode cX7_table 26 = .ok (.iastore, 1) := by decide +kernel
theorem dX7_table_27 : decode cX7_table 27 = .ok (.aload_n 0, 1) := by decide +kernel
theorem dX7_table_28 : decode cX7_table 28 = .ok (.getfield 102, 3) := by decide +kernel
theorem dX7_table_31 : decode cX7_table 31 = .ok (.aload_n 0, 1) := by decide +kernel
theorem dX7_table_32 : decode cX7_table 32 = .ok (.getfield 118, 3) := by decide +kernel
theorem dX7_table_35 : decode cX7_table 35 = .ok (.iconst (-1), 1) := by decide +kernel
theorem dX7_table_36 : decode cX7_table 36 = .ok (.iastore, 1) := by decide +kernel
theorem dX7_table_37 : decode cX7_table 37 = .ok (.aload_n 0, 1) := by decide +kernel
theorem dX7_table_38 : decode cX7_table 38 = .ok (.dup, 1) := by decide +kernel
theorem dX7_table_39 : decode cX7_table 39 = .ok (.getfield 118, 3) := by decide +kernel
theorem dX7_table_42 : decode cX7_table 42 = .ok (.iconst 1, 1) := by decide +kernel
theorem dX7_table_43 : decode cX7_table 43 = .ok (.iadd, 1) := by decide +kernel
theorem dX7_table_44 : decode cX7_table 44 = .ok (.putfield 118, 3) := by decide +kernel
theorem dX7_table_47 : decode cX7_table 47 = .ok (.aload_n 0, 1) := by decide +kernel
theorem dX7_table_48 : decode cX7_table 48 = .ok (.getfield 118, 3) := by decide +kernel
theorem dX7_table_51 : decode cX7_table 51 = .ok (.iconst 1, 1) := by decide +kernel
theorem dX7_table_52 : decode cX7_table 52 = .ok (.isub, 1) := by decide +kernel
theorem dX7_table_53 : decode cX7_table 53 = .ok (.ireturn, 1) := by decide +kernel
theorem dX7_isLetter_0 : decode cX7_isLetter 0 = .ok (.iload_n 0, 1) := by decide +kernel
theorem dX7_isLetter_1 : decode cX7_isLetter 1 = .ok (.bipush 97, 2) := by decide +kernel
theorem dX7_isLetter_3 : decode cX7_isLetter 3 = .ok (.if_icmp .lt 13, 3) := by decide +kernel
theorem dX7_isLetter_6 : decode cX7_isLetter 6 = .ok (.iload_n 0, 1) := by decide +kernel
theorem dX7_isLetter_7 : decode cX7_isLetter 7 = .ok (.bipush 122, 2) := by decide +kernel
theorem dX7_isLetter_9 : decode cX7_isLetter 9 = .ok (.if_icmp .gt 7, 3) := by decide +kernel
theorem dX7_isLetter_12 : decode cX7_isLetter 12 = .ok (.iconst 1, 1) := by decide +kernel
theorem dX7_isLetter_13 : decode cX7_isLetter 13 = .ok (.goto 4, 3) := by decide +kernel
theorem dX7_isLetter_16 : decode cX7_isLetter 16 = .ok (.iconst 0, 1) := by decide +kernel
theorem dX7_isLetter_17 : decode cX7_isLetter 17 = .ok (.ireturn, 1) := by decide +kernel
theorem dX7_byteOf_0 : decode cX7_byteOf 0 = .ok (.iload_n 3, 1) := by decide +kernel
theorem dX7_byteOf_1 : decode cX7_byteOf 1 = .ok (.iconst 4, 1) := by decide +kernel
theorem dX7_byteOf_2 : decode cX7_byteOf 2 = .ok (.if_icmp .ge 7, 3) := by decide +kernel
theorem dX7_byteOf_5 : decode cX7_byteOf 5 = .ok (.iload_n 0, 1) := by decide +kernel
theorem dX7_byteOf_6 : decode cX7_byteOf 6 = .ok (.goto 14, 3) := by decide +kernel
theorem dX7_byteOf_9 : decode cX7_byteOf 9 = .ok (.iload_n 3, 1) := by decide +kernel
theorem dX7_byteOf_10 : decode cX7_byteOf 10 = .ok (.bipush 8, 2) := by decide +kernel
theorem dX7_byteOf_12 : decode cX7_byteOf 12 = .ok (.if_icmp .ge 7, 3) := by decide +kernel
theorem dX7_byteOf_15 : decode cX7_byteOf 15 = .ok (.iload_n 1, 1) := by decide +kernel
theorem dX7_byteOf_16 : decode cX7_byteOf 16 = .ok (.goto 4, 3) := by decide +kernel
theorem dX7_byteOf_19 : decode cX7_byteOf 19 = .ok (.iload_n 2, 1) := by decide +kernel
theorem dX7_byteOf_20 : decode cX7_byteOf 20 = .ok (.istore 4, 2) := by decide +kernel
theorem dX7_byteOf_22 : decode cX7_byteOf 22 = .ok (.iload 4, 2) := by decide +kernel
theorem dX7_byteOf_24 : decode cX7_byteOf 24 = .ok (.bipush 24, 2) := by decide +kernel
theorem dX7_byteOf_26 : decode cX7_byteOf 26 = .ok (.bipush 8, 2) := by decide +kernel
theorem dX7_byteOf_28 : decode cX7_byteOf 28 = .ok (.iload_n 3, 1) := by decide +kernel
theorem dX7_byteOf_29 : decode cX7_byteOf 29 = .ok (.iconst 4, 1) := by decide +kernel
theorem dX7_byteOf_30 : decode cX7_byteOf 30 = .ok (.irem, 1) := by decide +kernel
theorem dX7_byteOf_31 : decode cX7_byteOf 31 = .ok (.imul, 1) := by decide +kernel
theorem dX7_byteOf_32 : decode cX7_byteOf 32 = .ok (.isub, 1) := by decide +kernel
theorem dX7_byteOf_33 : decode cX7_byteOf 33 = .ok (.ishr, 1) := by decide +kernel
theorem dX7_byteOf_34 : decode cX7_byteOf 34 = .ok (.sipush 255, 3) := by decide +kernel
theorem dX7_byteOf_37 : decode cX7_byteOf 37 = .ok (.iand, 1) := by decide +kernel
theorem dX7_byteOf_38 : decode cX7_byteOf 38 = .ok (.ireturn, 1) := by decide +kernel
theorem dX7_type_0 : decode cX7_type 0 = .ok (.aload_n 0, 1) := by decide +kernel
theorem dX7_type_1 : decode cX7_type 1 = .ok (.iconst 0, 1) := by decide +kernel
theorem dX7_type_2 : decode cX7_type 2 = .ok (.putfield 114, 3) := by decide +kernel
theorem dX7_type_5 : decode cX7_type 5 = .ok (.aload_n 0, 1) := by decide +kernel
theorem dX7_type_6 : decode cX7_type 6 = .ok (.iload_n 1, 1) := by decide +kernel
theorem dX7_type_7 : decode cX7_type 7 = .ok (.invokevirtual 121, 3) := by decide +kernel
theorem dX7_type_10 : decode cX7_type 10 = .ok (.ifCond .ne 5, 3) := by decide +kernel
theorem dX7_type_13 : decode cX7_type 13 = .ok (.iconst (-1), 1) := by decide +kernel
theorem dX7_type_14 : decode cX7_type 14 = .ok (.ireturn, 1) := by decide +kernel
theorem dX7_type_15 : decode cX7_type 15 = .ok (.iconst 0, 1) := by decide +kernel
theorem dX7_type_16 : decode cX7_type 16 = .ok (.istore 5, 2) := by decide +kernel
theorem dX7_type_18 : decode cX7_type 18 = .ok (.iconst 1, 1) := by decide +kernel
theorem dX7_type_19 : decode cX7_type 19 = .ok (.istore 6, 2) := by decide +kernel
theorem dX7_type_21 : decode cX7_type 21 = .ok (.iconst 0, 1) := by decide +kernel
theorem dX7_type_22 : decode cX7_type 22 = .ok (.istore 7, 2) := by decide +kernel
theorem dX7_type_24 : decode cX7_type 24 = .ok (.iload 7, 2) := by decide +kernel
theorem dX7_type_26 : decode cX7_type 26 = .ok (.bipush 12, 2) := by decide +kernel
theorem dX7_type_28 : decode cX7_type 28 = .ok (.if_icmp .ge 75, 3) := by decide +kernel
theorem dX7_type_31 : decode cX7_type 31 = .ok (.iload_n 2, 1) := by decide +kernel
theorem dX7_type_32 : decode cX7_type 32 = .ok (.iload_n 3, 1) := by decide +kernel
theorem dX7_type_33 : decode cX7_type 33 = .ok (.iload 4, 2) := by decide +kernel
theorem dX7_type_35 : decode cX7_type 35 = .ok (.iload 7, 2) := by decide +kernel
theorem dX7_type_37 : decode cX7_type 37 = .ok (.invokestatic 125, 3) := by decide +kernel
theorem dX7_type_40 : decode cX7_type 40 = .ok (.istore 8, 2) := by decide +kernel
theorem dX7_type_42 : decode cX7_type 42 = .ok (.iload 8, 2) := by decide +kernel
theorem dX7_type_44 : decode cX7_type 44 = .ok (.ifCond .eq 10, 3) := by decide +kernel
theorem dX7_type_47 : decode cX7_type 47 = .ok (.iload 5, 2) := by decide +kernel
theorem dX7_type_49 : decode cX7_type 49 = .ok (.iconst 1, 1) := by decide +kernel
theorem dX7_type_50 : decode cX7_type 50 = .ok (.iadd, 1) := by decide +kernel
theorem dX7_type_51 : decode cX7_type 51 = .ok (.goto 5, 3) := by decide +kernel
theorem dX7_type_54 : decode cX7_type 54 = .ok (.iload 5, 2) := by decide +kernel
theorem dX7_type_56 : decode cX7_type 56 = .ok (.istore 5, 2) := by decide +kernel
theorem dX7_type_58 : decode cX7_type 58 = .ok (.iload 6, 2) := by decide +kernel
theorem dX7_type_60 : decode cX7_type 60 = .ok (.ifCond .eq 34, 3) := by decide +kernel
theorem dX7_type_63 : decode cX7_type 63 = .ok (.iload 8, 2) := by decide +kernel
theorem dX7_type_65 : decode cX7_type 65 = .ok (.ifCond .eq 25, 3) := by decide +kernel
theorem dX7_type_68 : decode cX7_type 68 = .ok (.iload 8, 2) := by decide +kernel
theorem dX7_type_70 : decode cX7_type 70 = .ok (.invokestatic 129, 3) := by decide +kernel
theorem dX7_type_73 : decode cX7_type 73 = .ok (.ifCond .ne 17, 3) := by decide +kernel
theorem dX7_type_76 : decode cX7_type 76 = .ok (.iload 8, 2) := by decide +kernel
theorem dX7_type_78 : decode cX7_type 78 = .ok (.bipush 35, 2) := by decide +kernel
theorem dX7_type_80 : decode cX7_type 80 = .ok (.if_icmp .eq 10, 3) := by decide +kernel
theorem dX7_type_83 : decode cX7_type 83 = .ok (.iload 8, 2) := by decide +kernel
theorem dX7_type_85 : decode cX7_type 85 = .ok (.bipush 38, 2) := by decide +kernel
theorem dX7_type_87 : decode cX7_type 87 = .ok (.if_icmp .ne 7, 3) := by decide +kernel
theorem dX7_type_90 : decode cX7_type 90 = .ok (.iconst 1, 1) := by decide +kernel
theorem dX7_type_91 : decode cX7_type 91 = .ok (.goto 4, 3) := by decide +kernel
theorem dX7_type_94 : decode cX7_type 94 = .ok (.iconst 0, 1) := by decide +kernel
theorem dX7_type_95 : decode cX7_type 95 = .ok (.istore 6, 2) := by decide +kernel
theorem dX7_type_97 : decode cX7_type 97 = .ok (.iinc 7 1, 3) := by decide +kernel
theorem dX7_type_100 : decode cX7_type 100 = .ok (.goto (-76), 3) := by decide +kernel
theorem dX7_type_103 : decode cX7_type 103 = .ok (.iload 6, 2) := by decide +kernel
theorem dX7_type_105 : decode cX7_type 105 = .ok (.ifCond .ne 6, 3) := by decide +kernel
theorem dX7_type_108 : decode cX7_type 108 = .ok (.bipush (-2), 2) := by decide +kernel
theorem dX7_type_110 : decode cX7_type 110 = .ok (.ireturn, 1) := by decide +kernel
theorem dX7_type_111 : decode cX7_type 111 = .ok (.aload_n 0, 1) := by decide +kernel
theorem dX7_type_112 : decode cX7_type 112 = .ok (.getfield 16, 3) := by decide +kernel
theorem dX7_type_115 : decode cX7_type 115 = .ok (.iload_n 1, 1) := by decide +kernel
theorem dX7_type_116 : decode cX7_type 116 = .ok (.baload, 1) := by decide +kernel
theorem dX7_type_117 : decode cX7_type 117 = .ok (.ifCond .eq 6, 3) := by decide +kernel
theorem dX7_type_120 : decode cX7_type 120 = .ok (.bipush (-3), 2) := by decide +kernel
theorem dX7_type_122 : decode cX7_type 122 = .ok (.ireturn, 1) := by decide +kernel
theorem dX7_type_123 : decode cX7_type 123 = .ok (.aload_n 0, 1) := by decide +kernel
theorem dX7_type_124 : decode cX7_type 124 = .ok (.getfield 13, 3) := by decide +kernel
theorem dX7_type_127 : decode cX7_type 127 = .ok (.iload_n 1, 1) := by decide +kernel
theorem dX7_type_128 : decode cX7_type 128 = .ok (.iaload, 1) := by decide +kernel
theorem dX7_type_129 : decode cX7_type 129 = .ok (.iload 5, 2) := by decide +kernel
theorem dX7_type_131 : decode cX7_type 131 = .ok (.iadd, 1) := by decide +kernel
theorem dX7_type_132 : decode cX7_type 132 = .ok (.bipush 40, 2) := by decide +kernel
theorem dX7_type_134 : decode cX7_type 134 = .ok (.if_icmp .le 6, 3) := by decide +kernel
theorem dX7_type_137 : decode cX7_type 137 = .ok (.bipush (-4), 2) := by decide +kernel
theorem dX7_type_139 : decode cX7_type 139 = .ok (.ireturn, 1) := by decide +kernel
theorem dX7_type_140 : decode cX7_type 140 = .ok (.iconst 0, 1) := by decide +kernel
theorem dX7_type_141 : decode cX7_type 141 = .ok (.istore 7, 2) := by decide +kernel
theorem dX7_type_143 : decode cX7_type 143 = .ok (.iload 7, 2) := by decide +kernel
theorem dX7_type_145 : decode cX7_type 145 = .ok (.bipush 12, 2) := by decide +kernel
theorem dX7_type_147 : decode cX7_type 147 = .ok (.if_icmp .ge 53, 3) := by decide +kernel
theorem dX7_type_150 : decode cX7_type 150 = .ok (.iload_n 2, 1) := by decide +kernel
theorem dX7_type_151 : decode cX7_type 151 = .ok (.iload_n 3, 1) := by decide +kernel
theorem dX7_type_152 : decode cX7_type 152 = .ok (.iload 4, 2) := by decide +kernel
theorem dX7_type_154 : decode cX7_type 154 = .ok (.iload 7, 2) := by decide +kernel
theorem dX7_type_156 : decode cX7_type 156 = .ok (.invokestatic 125, 3) := by decide +kernel
theorem dX7_type_159 : decode cX7_type 159 = .ok (.istore 8, 2) := by decide +kernel
theorem dX7_type_161 : decode cX7_type 161 = .ok (.iload 8, 2) := by decide +kernel
theorem dX7_type_163 : decode cX7_type 163 = .ok (.ifCond .eq 31, 3) := by decide +kernel
theorem dX7_type_166 : decode cX7_type 166 = .ok (.aload_n 0, 1) := by decide +kernel
theorem dX7_type_167 : decode cX7_type 167 = .ok (.getfield 7, 3) := by decide +kernel
theorem dX7_type_170 : decode cX7_type 170 = .ok (.bipush 40, 2) := by decide +kernel
theorem dX7_type_172 : decode cX7_type 172 = .ok (.iload_n 1, 1) := by decide +kernel
theorem dX7_type_173 : decode cX7_type 173 = .ok (.imul, 1) := by decide +kernel
theorem dX7_type_174 : decode cX7_type 174 = .ok (.aload_n 0, 1) := by decide +kernel
theorem dX7_type_175 : decode cX7_type 175 = .ok (.getfield 13, 3) := by decide +kernel
theorem dX7_type_178 : decode cX7_type 178 = .ok (.iload_n 1, 1) := by decide +kernel
theorem dX7_type_179 : decode cX7_type 179 = .ok (.iaload, 1) := by decide +kernel
theorem dX7_type_180 : decode cX7_type 180 = .ok (.iadd, 1) := by decide +kernel
theorem dX7_type_181 : decode cX7_type 181 = .ok (.iload 8, 2) := by decide +kernel
theorem dX7_type_183 : decode cX7_type 183 = .ok (.iastore, 1) := by decide +kernel
theorem dX7_type_184 : decode cX7_type 184 = .ok (.aload_n 0, 1) := by decide +kernel
theorem dX7_type_185 : decode cX7_type 185 = .ok (.getfield 13, 3) := by decide +kernel
theorem dX7_type_188 : decode cX7_type 188 = .ok (.iload_n 1, 1) := by decide +kernel
theorem dX7_type_189 : decode cX7_type 189 = .ok (.dup2, 1) := by decide +kernel
theorem dX7_type_190 : decode cX7_type 190 = .ok (.iaload, 1) := by decide +kernel
theorem dX7_type_191 : decode cX7_type 191 = .ok (.iconst 1, 1) := by decide +kernel
theorem dX7_type_192 : decode cX7_type 192 = .ok (.iadd, 1) := by decide +kernel
theorem dX7_type_193 : decode cX7_type 193 = .ok (.iastore, 1) := by decide +kernel
theorem dX7_type_194 : decode cX7_type 194 = .ok (.iinc 7 1, 3) := by decide +kernel
theorem dX7_type_197 : decode cX7_type 197 = .ok (.goto (-54), 3) := by decide +kernel
theorem dX7_type_200 : decode cX7_type 200 = .ok (.aload_n 0, 1) := by decide +kernel
theorem dX7_type_201 : decode cX7_type 201 = .ok (.getfield 13, 3) := by decide +kernel
theorem dX7_type_204 : decode cX7_type 204 = .ok (.iload_n 1, 1) := by decide +kernel
theorem dX7_type_205 : decode cX7_type 205 = .ok (.iaload, 1) := by decide +kernel
theorem dX7_type_206 : decode cX7_type 206 = .ok (.ireturn, 1) := by decide +kernel
theorem dX7_sign_0 : decode cX7_sign 0 = .ok (.aload_n 0, 1) := by decide +kernel
theorem dX7_sign_1 : decode cX7_sign 1 = .ok (.getfield 132, 3) := by decide +kernel
theorem dX7_sign_4 : decode cX7_sign 4 = .ok (.aload_n 0, 1) := by decide +kernel
theorem dX7_sign_5 : decode cX7_sign 5 = .ok (.getfield 13, 3) := by decide +kernel
theorem dX7_sign_8 : decode cX7_sign 8 = .ok (.iload_n 1, 1) := by decide +kernel
theorem dX7_sign_9 : decode cX7_sign 9 = .ok (.iaload, 1) := by decide +kernel
theorem dX7_sign_10 : decode cX7_sign 10 = .ok (.if_icmp .ge 20, 3) := by decide +kernel
theorem dX7_sign_13 : decode cX7_sign 13 = .ok (.aload_n 0, 1) := by decide +kernel
theorem dX7_sign_14 : decode cX7_sign 14 = .ok (.getfield 7, 3) := by decide +kernel
theorem dX7_sign_17 : decode cX7_sign 17 = .ok (.bipush 40, 2) := by decide +kernel
theorem dX7_sign_19 : decode cX7_sign 19 = .ok (.iload_n 1, 1) := by decide +kernel
theorem dX7_sign_20 : decode cX7_sign 20 = .ok (.imul, 1) := by decide +kernel
theorem dX7_sign_21 : decode cX7_sign 21 = .ok (.aload_n 0, 1) := by decide +kernel
theorem dX7_sign_22 : decode cX7_sign 22 = .ok (.getfield 132, 3) := by decide +kernel
theorem dX7_sign_25 : decode cX7_sign 25 = .ok (.iadd, 1) := by decide +kernel
theorem dX7_sign_26 : decode cX7_sign 26 = .ok (.iaload, 1) := by decide +kernel
theorem dX7_sign_27 : decode cX7_sign 27 = .ok (.goto 4, 3) := by decide +kernel
theorem dX7_sign_30 : decode cX7_sign 30 = .ok (.iconst 0, 1) := by decide +kernel
theorem dX7_sign_31 : decode cX7_sign 31 = .ok (.ireturn, 1) := by decide +kernel
theorem dX7_passLetters_0 : decode cX7_passLetters 0 = .ok (.iconst 0, 1) := by decide +kernel
theorem dX7_passLetters_1 : decode cX7_passLetters 1 = .ok (.istore_n 2, 1) := by decide +kernel
theorem dX7_passLetters_2 : decode cX7_passLetters 2 = .ok (.aload_n 0, 1) := by decide +kernel
theorem dX7_passLetters_3 : decode cX7_passLetters 3 = .ok (.iload_n 1, 1) := by decide +kernel
theorem dX7_passLetters_4 : decode cX7_passLetters 4 = .ok (.invokevirtual 135, 3) := by decide +kernel
theorem dX7_passLetters_7 : decode cX7_passLetters 7 = .ok (.invokestatic 129, 3) := by decide +kernel
theorem dX7_passLetters_10 : decode cX7_passLetters 10 = .ok (.ifCond .eq 29, 3) := by decide +kernel
theorem dX7_passLetters_13 : decode cX7_passLetters 13 = .ok (.iload_n 2, 1) := by decide +kernel
theorem dX7_passLetters_14 : decode cX7_passLetters 14 = .ok (.aload_n 0, 1) := by decide +kernel
theorem dX7_passLetters_15 : decode cX7_passLetters 15 = .ok (.iload_n 1, 1) := by decide +kernel
theorem dX7_passLetters_16 : decode cX7_passLetters 16 = .ok (.invokevirtual 135, 3) := by decide +kernel
theorem dX7_passLetters_19 : decode cX7_passLetters 19 = .ok (.iadd, 1) := by decide +kernel
theorem dX7_passLetters_20 : decode cX7_passLetters 20 = .ok (.bipush 97, 2) := by decide +kernel
theorem dX7_passLetters_22 : decode cX7_passLetters 22 = .ok (.isub, 1) := by decide +kernel
theorem dX7_passLetters_23 : decode cX7_passLetters 23 = .ok (.iconst 1, 1) := by decide +kernel
theorem dX7_passLetters_24 : decode cX7_passLetters 24 = .ok (.iadd, 1) := by decide +kernel
theorem dX7_passLetters_25 : decode cX7_passLetters 25 = .ok (.istore_n 2, 1) := by decide +kernel
theorem dX7_passLetters_26 : decode cX7_passLetters 26 = .ok (.aload_n 0, 1) := by decide +kernel
theorem dX7_passLetters_27 : decode cX7_passLetters 27 = .ok (.dup, 1) := by decide +kernel
theorem dX7_passLetters_28 : decode cX7_passLetters 28 = .ok (.getfield 132, 3) := by decide +kernel
theorem dX7_passLetters_31 : decode cX7_passLetters 31 = .ok (.iconst 1, 1) := by decide +kernel
theorem dX7_passLetters_32 : decode cX7_passLetters 32 = .ok (.iadd, 1) := by decide +kernel
theorem dX7_passLetters_33 : decode cX7_passLetters 33 = .ok (.putfield 132, 3) := by decide +kernel
theorem dX7_passLetters_36 : decode cX7_passLetters 36 = .ok (.goto (-34), 3) := by decide +kernel
theorem dX7_passLetters_39 : decode cX7_passLetters 39 = .ok (.iload_n 2, 1) := by decide +kernel
theorem dX7_passLetters_40 : decode cX7_passLetters 40 = .ok (.ireturn, 1) := by decide +kernel
theorem dX7_readAll_0 : decode cX7_readAll 0 = .ok (.aload_n 0, 1) := by decide +kernel
theorem dX7_readAll_1 : decode cX7_readAll 1 = .ok (.iconst 0, 1) := by decide +kernel
theorem dX7_readAll_2 : decode cX7_readAll 2 = .ok (.putfield 132, 3) := by decide +kernel
theorem dX7_readAll_5 : decode cX7_readAll 5 = .ok (.aload_n 0, 1) := by decide +kernel
theorem dX7_readAll_6 : decode cX7_readAll 6 = .ok (.iconst (-1), 1) := by decide +kernel
theorem dX7_readAll_7 : decode cX7_readAll 7 = .ok (.putfield 139, 3) := by decide +kernel
theorem dX7_readAll_10 : decode cX7_readAll 10 = .ok (.iconst 0, 1) := by decide +kernel
theorem dX7_readAll_11 : decode cX7_readAll 11 = .ok (.istore_n 2, 1) := by decide +kernel
theorem dX7_readAll_12 : decode cX7_readAll 12 = .ok (.iconst (-1), 1) := by decide +kernel
theorem dX7_readAll_13 : decode cX7_readAll 13 = .ok (.istore_n 3, 1) := by decide +kernel
theorem dX7_readAll_14 : decode cX7_readAll 14 = .ok (.aload_n 0, 1) := by decide +kernel
theorem dX7_readAll_15 : decode cX7_readAll 15 = .ok (.iload_n 1, 1) := by decide +kernel
theorem dX7_readAll_16 : decode cX7_readAll 16 = .ok (.invokevirtual 135, 3) := by decide +kernel
theorem dX7_readAll_19 : decode cX7_readAll 19 = .ok (.bipush 38, 2) := by decide +kernel
theorem dX7_readAll_21 : decode cX7_readAll 21 = .ok (.if_icmp .ne 15, 3) := by decide +kernel
theorem dX7_readAll_24 : decode cX7_readAll 24 = .ok (.iconst 0, 1) := by decide +kernel
theorem dX7_readAll_25 : decode cX7_readAll 25 = .ok (.istore_n 3, 1) := by decide +kernel
theorem dX7_readAll_26 : decode cX7_readAll 26 = .ok (.aload_n 0, 1) := by decide +kernel
theorem dX7_readAll_27 : decode cX7_readAll 27 = .ok (.dup, 1) := by decide +kernel
theorem dX7_readAll_28 : decode cX7_readAll 28 = .ok (.getfield 132, 3) := by decide +kernel
theorem dX7_readAll_31 : decode cX7_readAll 31 = .ok (.iconst 1, 1) := by decide +kernel
theorem dX7_readAll_32 : decode cX7_readAll 32 = .ok (.iadd, 1) := by decide +kernel
theorem dX7_readAll_33 : decode cX7_readAll 33 = .ok (.putfield 132, 3) := by decide +kernel
theorem dX7_readAll_36 : decode cX7_readAll 36 = .ok (.iconst 1, 1) := by decide +kernel
theorem dX7_readAll_37 : decode cX7_readAll 37 = .ok (.istore 4, 2) := by decide +kernel
theorem dX7_readAll_39 : decode cX7_readAll 39 = .ok (.iload 4, 2) := by decide +kernel
theorem dX7_readAll_41 : decode cX7_readAll 41 = .ok (.ifCond .eq 191, 3) := by decide +kernel
theorem dX7_readAll_44 : decode cX7_readAll 44 = .ok (.aload_n 0, 1) := by decide +kernel
theorem dX7_readAll_45 : decode cX7_readAll 45 = .ok (.iload_n 1, 1) := by decide +kernel
theorem dX7_readAll_46 : decode cX7_readAll 46 = .ok (.invokevirtual 142, 3) := by decide +kernel
theorem dX7_readAll_49 : decode cX7_readAll 49 = .ok (.istore 5, 2) := by decide +kernel
theorem dX7_readAll_51 : decode cX7_readAll 51 = .ok (.aload_n 0, 1) := by decide +kernel
theorem dX7_readAll_52 : decode cX7_readAll 52 = .ok (.iload_n 1, 1) := by decide +kernel
theorem dX7_readAll_53 : decode cX7_readAll 53 = .ok (.invokevirtual 135, 3) := by decide +kernel
theorem dX7_readAll_56 : decode cX7_readAll 56 = .ok (.bipush 35, 2) := by decide +kernel
theorem dX7_readAll_58 : decode cX7_readAll 58 = .ok (.if_icmp .eq 12, 3) := by decide +kernel
theorem dX7_readAll_61 : decode cX7_readAll 61 = .ok (.aload_n 0, 1) := by decide +kernel
theorem dX7_readAll_62 : decode cX7_readAll 62 = .ok (.aload_n 0, 1) := by decide +kernel
theorem dX7_readAll_63 : decode cX7_readAll 63 = .ok (.getfield 132, 3) := by decide +kernel
theorem dX7_readAll_66 : decode cX7_readAll 66 = .ok (.putfield 139, 3) := by decide +kernel
theorem dX7_readAll_69 : decode cX7_readAll 69 = .ok (.return_, 1) := by decide +kernel
theorem dX7_readAll_70 : decode cX7_readAll 70 = .ok (.aload_n 0, 1) := by decide +kernel
theorem dX7_readAll_71 : decode cX7_readAll 71 = .ok (.dup, 1) := by decide +kernel
theorem dX7_readAll_72 : decode cX7_readAll 72 = .ok (.getfield 132, 3) := by decide +kernel
theorem dX7_readAll_75 : decode cX7_readAll 75 = .ok (.iconst 1, 1) := by decide +kernel
theorem dX7_readAll_76 : decode cX7_readAll 76 = .ok (.iadd, 1) := by decide +kernel
theorem dX7_readAll_77 : decode cX7_readAll 77 = .ok (.putfield 132, 3) := by decide +kernel
theorem dX7_readAll_80 : decode cX7_readAll 80 = .ok (.aload_n 0, 1) := by decide +kernel
theorem dX7_readAll_81 : decode cX7_readAll 81 = .ok (.getfield 26, 3) := by decide +kernel
theorem dX7_readAll_84 : decode cX7_readAll 84 = .ok (.bipush 12, 2) := by decide +kernel
theorem dX7_readAll_86 : decode cX7_readAll 86 = .ok (.iload_n 1, 1) := by decide +kernel
theorem dX7_readAll_87 : decode cX7_readAll 87 = .ok (.imul, 1) := by decide +kernel
theorem dX7_readAll_88 : decode cX7_readAll 88 = .ok (.iload_n 2, 1) := by decide +kernel
theorem dX7_readAll_89 : decode cX7_readAll 89 = .ok (.iadd, 1) := by decide +kernel
theorem dX7_readAll_90 : decode cX7_readAll 90 = .ok (.iload 5, 2) := by decide +kernel
theorem dX7_readAll_92 : decode cX7_readAll 92 = .ok (.iastore, 1) := by decide +kernel
theorem dX7_readAll_93 : decode cX7_readAll 93 = .ok (.aload_n 0, 1) := by decide +kernel
theorem dX7_readAll_94 : decode cX7_readAll 94 = .ok (.getfield 29, 3) := by decide +kernel
theorem dX7_readAll_97 : decode cX7_readAll 97 = .ok (.bipush 12, 2) := by decide +kernel
theorem dX7_readAll_99 : decode cX7_readAll 99 = .ok (.iload_n 1, 1) := by decide +kernel
theorem dX7_readAll_100 : decode cX7_readAll 100 = .ok (.imul, 1) := by decide +kernel
theorem dX7_readAll_101 : decode cX7_readAll 101 = .ok (.iload_n 2, 1) := by decide +kernel
theorem dX7_readAll_102 : decode cX7_readAll 102 = .ok (.iadd, 1) := by decide +kernel
theorem dX7_readAll_103 : decode cX7_readAll 103 = .ok (.aload_n 0, 1) := by decide +kernel
theorem dX7_readAll_104 : decode cX7_readAll 104 = .ok (.iload_n 1, 1) := by decide +kernel
theorem dX7_readAll_105 : decode cX7_readAll 105 = .ok (.invokevirtual 142, 3) := by decide +kernel
theorem dX7_readAll_108 : decode cX7_readAll 108 = .ok (.iastore, 1) := by decide +kernel
theorem dX7_readAll_109 : decode cX7_readAll 109 = .ok (.iinc 2 1, 3) := by decide +kernel
theorem dX7_readAll_112 : decode cX7_readAll 112 = .ok (.aload_n 0, 1) := by decide +kernel
theorem dX7_readAll_113 : decode cX7_readAll 113 = .ok (.iload_n 1, 1) := by decide +kernel
theorem dX7_readAll_114 : decode cX7_readAll 114 = .ok (.invokevirtual 135, 3) := by decide +kernel
theorem dX7_readAll_117 : decode cX7_readAll 117 = .ok (.bipush 38, 2) := by decide +kernel
theorem dX7_readAll_119 : decode cX7_readAll 119 = .ok (.if_icmp .ne 7, 3) := by decide +kernel
theorem dX7_readAll_122 : decode cX7_readAll 122 = .ok (.iconst 1, 1) := by decide +kernel
theorem dX7_readAll_123 : decode cX7_readAll 123 = .ok (.goto 4, 3) := by decide +kernel
theorem dX7_readAll_126 : decode cX7_readAll 126 = .ok (.iconst 0, 1) := by decide +kernel
theorem dX7_readAll_127 : decode cX7_readAll 127 = .ok (.istore 4, 2) := by decide +kernel
theorem dX7_readAll_129 : decode cX7_readAll 129 = .ok (.iload 4, 2) := by decide +kernel
theorem dX7_readAll_131 : decode cX7_readAll 131 = .ok (.ifCond .ne 16, 3) := by decide +kernel
theorem dX7_readAll_134 : decode cX7_readAll 134 = .ok (.aload_n 0, 1) := by decide +kernel
theorem dX7_readAll_135 : decode cX7_readAll 135 = .ok (.getfield 132, 3) := by decide +kernel
theorem dX7_readAll_138 : decode cX7_readAll 138 = .ok (.aload_n 0, 1) := by decide +kernel
theorem dX7_readAll_139 : decode cX7_readAll 139 = .ok (.getfield 13, 3) := by decide +kernel
theorem dX7_readAll_142 : decode cX7_readAll 142 = .ok (.iload_n 1, 1) := by decide +kernel
theorem dX7_readAll_143 : decode cX7_readAll 143 = .ok (.iaload, 1) := by decide +kernel
theorem dX7_readAll_144 : decode cX7_readAll 144 = .ok (.if_icmp .lt 14, 3) := by decide +kernel
theorem dX7_readAll_147 : decode cX7_readAll 147 = .ok (.iload 4, 2) := by decide +kernel
theorem dX7_readAll_149 : decode cX7_readAll 149 = .ok (.ifCond .eq 18, 3) := by decide +kernel
theorem dX7_readAll_152 : decode cX7_readAll 152 = .ok (.iload_n 2, 1) := by decide +kernel
theorem dX7_readAll_153 : decode cX7_readAll 153 = .ok (.bipush 12, 2) := by decide +kernel
theorem dX7_readAll_155 : decode cX7_readAll 155 = .ok (.if_icmp .ne 12, 3) := by decide +kernel
theorem dX7_readAll_158 : decode cX7_readAll 158 = .ok (.aload_n 0, 1) := by decide +kernel
theorem dX7_readAll_159 : decode cX7_readAll 159 = .ok (.aload_n 0, 1) := by decide +kernel
theorem dX7_readAll_160 : decode cX7_readAll 160 = .ok (.getfield 132, 3) := by decide +kernel
theorem dX7_readAll_163 : decode cX7_readAll 163 = .ok (.putfield 139, 3) := by decide +kernel
theorem dX7_readAll_166 : decode cX7_readAll 166 = .ok (.return_, 1) := by decide +kernel
theorem dX7_readAll_167 : decode cX7_readAll 167 = .ok (.aload_n 0, 1) := by decide +kernel
theorem dX7_readAll_168 : decode cX7_readAll 168 = .ok (.iload 4, 2) := by decide +kernel
theorem dX7_readAll_170 : decode cX7_readAll 170 = .ok (.ifCond .eq 12, 3) := by decide +kernel
theorem dX7_readAll_173 : decode cX7_readAll 173 = .ok (.aload_n 0, 1) := by decide +kernel
theorem dX7_readAll_174 : decode cX7_readAll 174 = .ok (.getfield 132, 3) := by decide +kernel
theorem dX7_readAll_177 : decode cX7_readAll 177 = .ok (.iconst 1, 1) := by decide +kernel
theorem dX7_readAll_178 : decode cX7_readAll 178 = .ok (.iadd, 1) := by decide +kernel
theorem dX7_readAll_179 : decode cX7_readAll 179 = .ok (.goto 7, 3) := by decide +kernel
theorem dX7_readAll_182 : decode cX7_readAll 182 = .ok (.aload_n 0, 1) := by decide +kernel
theorem dX7_readAll_183 : decode cX7_readAll 183 = .ok (.getfield 132, 3) := by decide +kernel
theorem dX7_readAll_186 : decode cX7_readAll 186 = .ok (.putfield 132, 3) := by decide +kernel
theorem dX7_readAll_189 : decode cX7_readAll 189 = .ok (.iload 4, 2) := by decide +kernel
theorem dX7_readAll_191 : decode cX7_readAll 191 = .ok (.ifCond .eq 38, 3) := by decide +kernel
theorem dX7_readAll_194 : decode cX7_readAll 194 = .ok (.aload_n 0, 1) := by decide +kernel
theorem dX7_readAll_195 : decode cX7_readAll 195 = .ok (.iload_n 1, 1) := by decide +kernel
theorem dX7_readAll_196 : decode cX7_readAll 196 = .ok (.invokevirtual 135, 3) := by decide +kernel
theorem dX7_readAll_199 : decode cX7_readAll 199 = .ok (.bipush 38, 2) := by decide +kernel
theorem dX7_readAll_201 : decode cX7_readAll 201 = .ok (.if_icmp .ne 28, 3) := by decide +kernel
theorem dX7_readAll_204 : decode cX7_readAll 204 = .ok (.iload_n 3, 1) := by decide +kernel
theorem dX7_readAll_205 : decode cX7_readAll 205 = .ok (.ifCond .lt 12, 3) := by decide +kernel
theorem dX7_readAll_208 : decode cX7_readAll 208 = .ok (.aload_n 0, 1) := by decide +kernel
theorem dX7_readAll_209 : decode cX7_readAll 209 = .ok (.aload_n 0, 1) := by decide +kernel
theorem dX7_readAll_210 : decode cX7_readAll 210 = .ok (.getfield 132, 3) := by decide +kernel
theorem dX7_readAll_213 : decode cX7_readAll 213 = .ok (.putfield 139, 3) := by decide +kernel
theorem dX7_readAll_216 : decode cX7_readAll 216 = .ok (.return_, 1) := by decide +kernel
theorem dX7_readAll_217 : decode cX7_readAll 217 = .ok (.iload_n 2, 1) := by decide +kernel
theorem dX7_readAll_218 : decode cX7_readAll 218 = .ok (.istore_n 3, 1) := by decide +kernel
theorem dX7_readAll_219 : decode cX7_readAll 219 = .ok (.aload_n 0, 1) := by decide +kernel
theorem dX7_readAll_220 : decode cX7_readAll 220 = .ok (.dup, 1) := by decide +kernel
theorem dX7_readAll_221 : decode cX7_readAll 221 = .ok (.getfield 132, 3) := by decide +kernel
theorem dX7_readAll_224 : decode cX7_readAll 224 = .ok (.iconst 1, 1) := by decide +kernel
theorem dX7_readAll_225 : decode cX7_readAll 225 = .ok (.iadd, 1) := by decide +kernel
theorem dX7_readAll_226 : decode cX7_readAll 226 = .ok (.putfield 132, 3) := by decide +kernel
theorem dX7_readAll_229 : decode cX7_readAll 229 = .ok (.goto (-190), 3) := by decide +kernel
theorem dX7_readAll_232 : decode cX7_readAll 232 = .ok (.aload_n 0, 1) := by decide +kernel
theorem dX7_readAll_233 : decode cX7_readAll 233 = .ok (.getfield 20, 3) := by decide +kernel
theorem dX7_readAll_236 : decode cX7_readAll 236 = .ok (.iload_n 1, 1) := by decide +kernel
theorem dX7_readAll_237 : decode cX7_readAll 237 = .ok (.iload_n 2, 1) := by decide +kernel
theorem dX7_readAll_238 : decode cX7_readAll 238 = .ok (.iastore, 1) := by decide +kernel
theorem dX7_readAll_239 : decode cX7_readAll 239 = .ok (.aload_n 0, 1) := by decide +kernel
theorem dX7_readAll_240 : decode cX7_readAll 240 = .ok (.getfield 23, 3) := by decide +kernel
theorem dX7_readAll_243 : decode cX7_readAll 243 = .ok (.iload_n 1, 1) := by decide +kernel
theorem dX7_readAll_244 : decode cX7_readAll 244 = .ok (.iload_n 3, 1) := by decide +kernel
theorem dX7_readAll_245 : decode cX7_readAll 245 = .ok (.iastore, 1) := by decide +kernel
theorem dX7_readAll_246 : decode cX7_readAll 246 = .ok (.return_, 1) := by decide +kernel
theorem dX7_lay_0 : decode cX7_lay 0 = .ok (.aload_n 0, 1) := by decide +kernel
theorem dX7_lay_1 : decode cX7_lay 1 = .ok (.iconst 0, 1) := by decide +kernel
theorem dX7_lay_2 : decode cX7_lay 2 = .ok (.putfield 114, 3) := by decide +kernel
theorem dX7_lay_5 : decode cX7_lay 5 = .ok (.aload_n 0, 1) := by decide +kernel
theorem dX7_lay_6 : decode cX7_lay 6 = .ok (.iload_n 1, 1) := by decide +kernel
theorem dX7_lay_7 : decode cX7_lay 7 = .ok (.invokevirtual 121, 3) := by decide +kernel
theorem dX7_lay_10 : decode cX7_lay 10 = .ok (.ifCond .ne 5, 3) := by decide +kernel
theorem dX7_lay_13 : decode cX7_lay 13 = .ok (.iconst (-1), 1) := by decide +kernel
theorem dX7_lay_14 : decode cX7_lay 14 = .ok (.ireturn, 1) := by decide +kernel
theorem dX7_lay_15 : decode cX7_lay 15 = .ok (.aload_n 0, 1) := by decide +kernel
theorem dX7_lay_16 : decode cX7_lay 16 = .ok (.getfield 16, 3) := by decide +kernel
theorem dX7_lay_19 : decode cX7_lay 19 = .ok (.iload_n 1, 1) := by decide +kernel
theorem dX7_lay_20 : decode cX7_lay 20 = .ok (.baload, 1) := by decide +kernel
theorem dX7_lay_21 : decode cX7_lay 21 = .ok (.ifCond .eq 6, 3) := by decide +kernel
theorem dX7_lay_24 : decode cX7_lay 24 = .ok (.bipush (-3), 2) := by decide +kernel
theorem dX7_lay_26 : decode cX7_lay 26 = .ok (.ireturn, 1) := by decide +kernel
theorem dX7_lay_27 : decode cX7_lay 27 = .ok (.aload_n 0, 1) := by decide +kernel
theorem dX7_lay_28 : decode cX7_lay 28 = .ok (.iload_n 1, 1) := by decide +kernel
theorem dX7_lay_29 : decode cX7_lay 29 = .ok (.invokevirtual 145, 3) := by decide +kernel
theorem dX7_lay_32 : decode cX7_lay 32 = .ok (.aload_n 0, 1) := by decide +kernel
theorem dX7_lay_33 : decode cX7_lay 33 = .ok (.getfield 139, 3) := by decide +kernel
theorem dX7_lay_36 : decode cX7_lay 36 = .ok (.ifCond .lt 18, 3) := by decide +kernel
theorem dX7_lay_39 : decode cX7_lay 39 = .ok (.aload_n 0, 1) := by decide +kernel
theorem dX7_lay_40 : decode cX7_lay 40 = .ok (.getfield 13, 3) := by decide +kernel
theorem dX7_lay_43 : decode cX7_lay 43 = .ok (.iload_n 1, 1) := by decide +kernel
theorem dX7_lay_44 : decode cX7_lay 44 = .ok (.iconst 0, 1) := by decide +kernel
theorem dX7_lay_45 : decode cX7_lay 45 = .ok (.iastore, 1) := by decide +kernel
theorem dX7_lay_46 : decode cX7_lay 46 = .ok (.bipush (-10), 2) := by decide +kernel
theorem dX7_lay_48 : decode cX7_lay 48 = .ok (.aload_n 0, 1) := by decide +kernel
theorem dX7_lay_49 : decode cX7_lay 49 = .ok (.getfield 139, 3) := by decide +kernel
theorem dX7_lay_52 : decode cX7_lay 52 = .ok (.isub, 1) := by decide +kernel
theorem dX7_lay_53 : decode cX7_lay 53 = .ok (.ireturn, 1) := by decide +kernel
theorem dX7_lay_54 : decode cX7_lay 54 = .ok (.aload_n 0, 1) := by decide +kernel
theorem dX7_lay_55 : decode cX7_lay 55 = .ok (.getfield 16, 3) := by decide +kernel
theorem dX7_lay_58 : decode cX7_lay 58 = .ok (.iload_n 1, 1) := by decide +kernel
theorem dX7_lay_59 : decode cX7_lay 59 = .ok (.iconst 1, 1) := by decide +kernel
theorem dX7_lay_60 : decode cX7_lay 60 = .ok (.bastore, 1) := by decide +kernel
theorem dX7_lay_61 : decode cX7_lay 61 = .ok (.aload_n 0, 1) := by decide +kernel
theorem dX7_lay_62 : decode cX7_lay 62 = .ok (.getfield 20, 3) := by decide +kernel
theorem dX7_lay_65 : decode cX7_lay 65 = .ok (.iload_n 1, 1) := by decide +kernel
theorem dX7_lay_66 : decode cX7_lay 66 = .ok (.iaload, 1) := by decide +kernel
theorem dX7_lay_67 : decode cX7_lay 67 = .ok (.ireturn, 1) := by decide +kernel
theorem dX7_columnsOf_0 : decode cX7_columnsOf 0 = .ok (.aload_n 0, 1) := by decide +kernel
theorem dX7_columnsOf_1 : decode cX7_columnsOf 1 = .ok (.getfield 23, 3) := by decide +kernel
theorem dX7_columnsOf_4 : decode cX7_columnsOf 4 = .ok (.iload_n 1, 1) := by decide +kernel
theorem dX7_columnsOf_5 : decode cX7_columnsOf 5 = .ok (.iaload, 1) := by decide +kernel
theorem dX7_columnsOf_6 : decode cX7_columnsOf 6 = .ok (.ifCond .lt 8, 3) := by decide +kernel
theorem dX7_columnsOf_9 : decode cX7_columnsOf 9 = .ok (.bipush 24, 2) := by decide +kernel
theorem dX7_columnsOf_11 : decode cX7_columnsOf 11 = .ok (.goto 9, 3) := by decide +kernel
theorem dX7_columnsOf_14 : decode cX7_columnsOf 14 = .ok (.aload_n 0, 1) := by decide +kernel
theorem dX7_columnsOf_15 : decode cX7_columnsOf 15 = .ok (.getfield 20, 3) := by decide +kernel
theorem dX7_columnsOf_18 : decode cX7_columnsOf 18 = .ok (.iload_n 1, 1) := by decide +kernel
theorem dX7_columnsOf_19 : decode cX7_columnsOf 19 = .ok (.iaload, 1) := by decide +kernel
theorem dX7_columnsOf_20 : decode cX7_columnsOf 20 = .ok (.ireturn, 1) := by decide +kernel
theorem dX7_templateOf_0 : decode cX7_templateOf 0 = .ok (.aload_n 0, 1) := by decide +kernel
theorem dX7_templateOf_1 : decode cX7_templateOf 1 = .ok (.getfield 20, 3) := by decide +kernel
theorem dX7_templateOf_4 : decode cX7_templateOf 4 = .ok (.iload_n 1, 1) := by decide +kernel
theorem dX7_templateOf_5 : decode cX7_templateOf 5 = .ok (.iaload, 1) := by decide +kernel
theorem dX7_templateOf_6 : decode cX7_templateOf 6 = .ok (.istore_n 3, 1) := by decide +kernel
theorem dX7_templateOf_7 : decode cX7_templateOf 7 = .ok (.iload_n 2, 1) := by decide +kernel
theorem dX7_templateOf_8 : decode cX7_templateOf 8 = .ok (.iload_n 3, 1) := by decide +kernel
theorem dX7_templateOf_9 : decode cX7_templateOf 9 = .ok (.if_icmp .ge 7, 3) := by decide +kernel
theorem dX7_templateOf_12 : decode cX7_templateOf 12 = .ok (.iload_n 2, 1) := by decide +kernel
theorem dX7_templateOf_13 : decode cX7_templateOf 13 = .ok (.goto 27, 3) := by decide +kernel
theorem dX7_templateOf_16 : decode cX7_templateOf 16 = .ok (.aload_n 0, 1) := by decide +kernel
theorem dX7_templateOf_17 : decode cX7_templateOf 17 = .ok (.getfield 23, 3) := by decide +kernel
theorem dX7_templateOf_20 : decode cX7_templateOf 20 = .ok (.iload_n 1, 1) := by decide +kernel
theorem dX7_templateOf_21 : decode cX7_templateOf 21 = .ok (.iaload, 1) := by decide +kernel
theorem dX7_templateOf_22 : decode cX7_templateOf 22 = .ok (.iload_n 2, 1) := by decide +kernel
theorem dX7_templateOf_23 : decode cX7_templateOf 23 = .ok (.aload_n 0, 1) := by decide +kernel
theorem dX7_templateOf_24 : decode cX7_templateOf 24 = .ok (.getfield 23, 3) := by decide +kernel
theorem dX7_templateOf_27 : decode cX7_templateOf 27 = .ok (.iload_n 1, 1) := by decide +kernel
theorem dX7_templateOf_28 : decode cX7_templateOf 28 = .ok (.iaload, 1) := by decide +kernel
theorem dX7_templateOf_29 : decode cX7_templateOf 29 = .ok (.isub, 1) := by decide +kernel
theorem dX7_templateOf_30 : decode cX7_templateOf 30 = .ok (.iload_n 3, 1) := by decide +kernel
theorem dX7_templateOf_31 : decode cX7_templateOf 31 = .ok (.aload_n 0, 1) := by decide +kernel
theorem dX7_templateOf_32 : decode cX7_templateOf 32 = .ok (.getfield 23, 3) := by decide +kernel
theorem dX7_templateOf_35 : decode cX7_templateOf 35 = .ok (.iload_n 1, 1) := by decide +kernel
theorem dX7_templateOf_36 : decode cX7_templateOf 36 = .ok (.iaload, 1) := by decide +kernel
theorem dX7_templateOf_37 : decode cX7_templateOf 37 = .ok (.isub, 1) := by decide +kernel
theorem dX7_templateOf_38 : decode cX7_templateOf 38 = .ok (.irem, 1) := by decide +kernel
theorem dX7_templateOf_39 : decode cX7_templateOf 39 = .ok (.iadd, 1) := by decide +kernel
theorem dX7_templateOf_40 : decode cX7_templateOf 40 = .ok (.ireturn, 1) := by decide +kernel
theorem dX7_wrongGlue_0 : decode cX7_wrongGlue 0 = .ok (.aload_n 0, 1) := by decide +kernel
theorem dX7_wrongGlue_1 : decode cX7_wrongGlue 1 = .ok (.iload_n 1, 1) := by decide +kernel
theorem dX7_wrongGlue_2 : decode cX7_wrongGlue 2 = .ok (.invokevirtual 121, 3) := by decide +kernel
theorem dX7_wrongGlue_5 : decode cX7_wrongGlue 5 = .ok (.ifCond .ne 7, 3) := by decide +kernel
theorem dX7_wrongGlue_8 : decode cX7_wrongGlue 8 = .ok (.iconst (-1), 1) := by decide +kernel
theorem dX7_wrongGlue_9 : decode cX7_wrongGlue 9 = .ok (.goto 38, 3) := by decide +kernel
theorem dX7_wrongGlue_12 : decode cX7_wrongGlue 12 = .ok (.aload_n 0, 1) := by decide +kernel
theorem dX7_wrongGlue_13 : decode cX7_wrongGlue 13 = .ok (.getfield 16, 3) := by decide +kernel
theorem dX7_wrongGlue_16 : decode cX7_wrongGlue 16 = .ok (.iload_n 1, 1) := by decide +kernel
theorem dX7_wrongGlue_17 : decode cX7_wrongGlue 17 = .ok (.baload, 1) := by decide +kernel
theorem dX7_wrongGlue_18 : decode cX7_wrongGlue 18 = .ok (.ifCond .ne 8, 3) := by decide +kernel
theorem dX7_wrongGlue_21 : decode cX7_wrongGlue 21 = .ok (.bipush (-3), 2) := by decide +kernel
theorem dX7_wrongGlue_23 : decode cX7_wrongGlue 23 = .ok (.goto 24, 3) := by decide +kernel
theorem dX7_wrongGlue_26 : decode cX7_wrongGlue 26 = .ok (.iload_n 2, 1) := by decide +kernel
theorem dX7_wrongGlue_27 : decode cX7_wrongGlue 27 = .ok (.i2l, 1) := by decide +kernel
theorem dX7_wrongGlue_28 : decode cX7_wrongGlue 28 = .ok (.lconst 0, 1) := by decide +kernel
theorem dX7_wrongGlue_29 : decode cX7_wrongGlue 29 = .ok (.aload_n 0, 1) := by decide +kernel
theorem dX7_wrongGlue_30 : decode cX7_wrongGlue 30 = .ok (.getfield 20, 3) := by decide +kernel
theorem dX7_wrongGlue_33 : decode cX7_wrongGlue 33 = .ok (.iload_n 1, 1) := by decide +kernel
theorem dX7_wrongGlue_34 : decode cX7_wrongGlue 34 = .ok (.iaload, 1) := by decide +kernel
theorem dX7_wrongGlue_35 : decode cX7_wrongGlue 35 = .ok (.i2l, 1) := by decide +kernel
theorem dX7_wrongGlue_36 : decode cX7_wrongGlue 36 = .ok (.invokestatic 149, 3) := by decide +kernel
theorem dX7_wrongGlue_39 : decode cX7_wrongGlue 39 = .ok (.ifCond .ne 7, 3) := by decide +kernel
theorem dX7_wrongGlue_42 : decode cX7_wrongGlue 42 = .ok (.iconst (-1), 1) := by decide +kernel
theorem dX7_wrongGlue_43 : decode cX7_wrongGlue 43 = .ok (.goto 4, 3) := by decide +kernel
theorem dX7_wrongGlue_46 : decode cX7_wrongGlue 46 = .ok (.iconst 0, 1) := by decide +kernel
theorem dX7_wrongGlue_47 : decode cX7_wrongGlue 47 = .ok (.ireturn, 1) := by decide +kernel
theorem dX7_glue_0 : decode cX7_glue 0 = .ok (.aload_n 0, 1) := by decide +kernel
theorem dX7_glue_1 : decode cX7_glue 1 = .ok (.iconst 0, 1) := by decide +kernel
theorem dX7_glue_2 : decode cX7_glue 2 = .ok (.putfield 114, 3) := by decide +kernel
theorem dX7_glue_5 : decode cX7_glue 5 = .ok (.aload_n 0, 1) := by decide +kernel
theorem dX7_glue_6 : decode cX7_glue 6 = .ok (.iload_n 1, 1) := by decide +kernel
theorem dX7_glue_7 : decode cX7_glue 7 = .ok (.iload_n 2, 1) := by decide +kernel
theorem dX7_glue_8 : decode cX7_glue 8 = .ok (.invokevirtual 153, 3) := by decide +kernel
theorem dX7_glue_11 : decode cX7_glue 11 = .ok (.istore 6, 2) := by decide +kernel
theorem dX7_glue_13 : decode cX7_glue 13 = .ok (.iload 6, 2) := by decide +kernel
theorem dX7_glue_15 : decode cX7_glue 15 = .ok (.ifCond .eq 6, 3) := by decide +kernel
theorem dX7_glue_18 : decode cX7_glue 18 = .ok (.iload 6, 2) := by decide +kernel
theorem dX7_glue_20 : decode cX7_glue 20 = .ok (.ireturn, 1) := by decide +kernel
theorem dX7_glue_21 : decode cX7_glue 21 = .ok (.iload_n 3, 1) := by decide +kernel
theorem dX7_glue_22 : decode cX7_glue 22 = .ok (.i2l, 1) := by decide +kernel
theorem dX7_glue_23 : decode cX7_glue 23 = .ok (.ldc2_w 157, 3) := by decide +kernel
theorem dX7_glue_26 : decode cX7_glue 26 = .ok (.ldc2_w 159, 3) := by decide +kernel
theorem dX7_glue_29 : decode cX7_glue 29 = .ok (.invokestatic 149, 3) := by decide +kernel
theorem dX7_glue_32 : decode cX7_glue 32 = .ok (.ifCond .eq 29, 3) := by decide +kernel
theorem dX7_glue_35 : decode cX7_glue 35 = .ok (.iload 4, 2) := by decide +kernel
theorem dX7_glue_37 : decode cX7_glue 37 = .ok (.i2l, 1) := by decide +kernel
theorem dX7_glue_38 : decode cX7_glue 38 = .ok (.lconst 0, 1) := by decide +kernel
theorem dX7_glue_39 : decode cX7_glue 39 = .ok (.ldc2_w 159, 3) := by decide +kernel
theorem dX7_glue_42 : decode cX7_glue 42 = .ok (.invokestatic 149, 3) := by decide +kernel
theorem dX7_glue_45 : decode cX7_glue 45 = .ok (.ifCond .eq 16, 3) := by decide +kernel
theorem dX7_glue_48 : decode cX7_glue 48 = .ok (.iload 5, 2) := by decide +kernel
theorem dX7_glue_50 : decode cX7_glue 50 = .ok (.i2l, 1) := by decide +kernel
theorem dX7_glue_51 : decode cX7_glue 51 = .ok (.lconst 0, 1) := by decide +kernel
theorem dX7_glue_52 : decode cX7_glue 52 = .ok (.ldc2_w 161, 3) := by decide +kernel
theorem dX7_glue_55 : decode cX7_glue 55 = .ok (.invokestatic 149, 3) := by decide +kernel
theorem dX7_glue_58 : decode cX7_glue 58 = .ok (.ifCond .ne 6, 3) := by decide +kernel
theorem dX7_glue_61 : decode cX7_glue 61 = .ok (.bipush (-2), 2) := by decide +kernel
theorem dX7_glue_63 : decode cX7_glue 63 = .ok (.ireturn, 1) := by decide +kernel
theorem dX7_glue_64 : decode cX7_glue 64 = .ok (.aload_n 0, 1) := by decide +kernel
theorem dX7_glue_65 : decode cX7_glue 65 = .ok (.getfield 32, 3) := by decide +kernel
theorem dX7_glue_68 : decode cX7_glue 68 = .ok (.bipush 13, 2) := by decide +kernel
theorem dX7_glue_70 : decode cX7_glue 70 = .ok (.iload_n 1, 1) := by decide +kernel
theorem dX7_glue_71 : decode cX7_glue 71 = .ok (.imul, 1) := by decide +kernel
theorem dX7_glue_72 : decode cX7_glue 72 = .ok (.iload_n 2, 1) := by decide +kernel
theorem dX7_glue_73 : decode cX7_glue 73 = .ok (.iadd, 1) := by decide +kernel
theorem dX7_glue_74 : decode cX7_glue 74 = .ok (.iload_n 3, 1) := by decide +kernel
theorem dX7_glue_75 : decode cX7_glue 75 = .ok (.iastore, 1) := by decide +kernel
theorem dX7_glue_76 : decode cX7_glue 76 = .ok (.aload_n 0, 1) := by decide +kernel
theorem dX7_glue_77 : decode cX7_glue 77 = .ok (.getfield 35, 3) := by decide +kernel
theorem dX7_glue_80 : decode cX7_glue 80 = .ok (.bipush 13, 2) := by decide +kernel
theorem dX7_glue_82 : decode cX7_glue 82 = .ok (.iload_n 1, 1) := by decide +kernel
theorem dX7_glue_83 : decode cX7_glue 83 = .ok (.imul, 1) := by decide +kernel
theorem dX7_glue_84 : decode cX7_glue 84 = .ok (.iload_n 2, 1) := by decide +kernel
theorem dX7_glue_85 : decode cX7_glue 85 = .ok (.iadd, 1) := by decide +kernel
theorem dX7_glue_86 : decode cX7_glue 86 = .ok (.iload 4, 2) := by decide +kernel
theorem dX7_glue_88 : decode cX7_glue 88 = .ok (.iastore, 1) := by decide +kernel
theorem dX7_glue_89 : decode cX7_glue 89 = .ok (.aload_n 0, 1) := by decide +kernel
theorem dX7_glue_90 : decode cX7_glue 90 = .ok (.getfield 38, 3) := by decide +kernel
theorem dX7_glue_93 : decode cX7_glue 93 = .ok (.bipush 13, 2) := by decide +kernel
theorem dX7_glue_95 : decode cX7_glue 95 = .ok (.iload_n 1, 1) := by decide +kernel
theorem dX7_glue_96 : decode cX7_glue 96 = .ok (.imul, 1) := by decide +kernel
theorem dX7_glue_97 : decode cX7_glue 97 = .ok (.iload_n 2, 1) := by decide +kernel
theorem dX7_glue_98 : decode cX7_glue 98 = .ok (.iadd, 1) := by decide +kernel
theorem dX7_glue_99 : decode cX7_glue 99 = .ok (.iload 5, 2) := by decide +kernel
theorem dX7_glue_101 : decode cX7_glue 101 = .ok (.iastore, 1) := by decide +kernel
theorem dX7_glue_102 : decode cX7_glue 102 = .ok (.iconst 1, 1) := by decide +kernel
theorem dX7_glue_103 : decode cX7_glue 103 = .ok (.ireturn, 1) := by decide +kernel
theorem dX7_shrink_0 : decode cX7_shrink 0 = .ok (.aload_n 0, 1) := by decide +kernel
theorem dX7_shrink_1 : decode cX7_shrink 1 = .ok (.iconst 0, 1) := by decide +kernel
theorem dX7_shrink_2 : decode cX7_shrink 2 = .ok (.putfield 114, 3) := by decide +kernel
theorem dX7_shrink_5 : decode cX7_shrink 5 = .ok (.aload_n 0, 1) := by decide +kernel
theorem dX7_shrink_6 : decode cX7_shrink 6 = .ok (.iload_n 1, 1) := by decide +kernel
theorem dX7_shrink_7 : decode cX7_shrink 7 = .ok (.iload_n 2, 1) := by decide +kernel
theorem dX7_shrink_8 : decode cX7_shrink 8 = .ok (.invokevirtual 153, 3) := by decide +kernel
theorem dX7_shrink_11 : decode cX7_shrink 11 = .ok (.istore 5, 2) := by decide +kernel
theorem dX7_shrink_13 : decode cX7_shrink 13 = .ok (.iload 5, 2) := by decide +kernel
theorem dX7_shrink_15 : decode cX7_shrink 15 = .ok (.ifCond .eq 6, 3) := by decide +kernel
theorem dX7_shrink_18 : decode cX7_shrink 18 = .ok (.iload 5, 2) := by decide +kernel
theorem dX7_shrink_20 : decode cX7_shrink 20 = .ok (.ireturn, 1) := by decide +kernel
theorem dX7_shrink_21 : decode cX7_shrink 21 = .ok (.iload_n 3, 1) := by decide +kernel
theorem dX7_shrink_22 : decode cX7_shrink 22 = .ok (.i2l, 1) := by decide +kernel
theorem dX7_shrink_23 : decode cX7_shrink 23 = .ok (.lconst 0, 1) := by decide +kernel
theorem dX7_shrink_24 : decode cX7_shrink 24 = .ok (.ldc2_w 159, 3) := by decide +kernel
theorem dX7_shrink_27 : decode cX7_shrink 27 = .ok (.invokestatic 149, 3) := by decide +kernel
theorem dX7_shrink_30 : decode cX7_shrink 30 = .ok (.ifCond .eq 16, 3) := by decide +kernel
theorem dX7_shrink_33 : decode cX7_shrink 33 = .ok (.iload 4, 2) := by decide +kernel
theorem dX7_shrink_35 : decode cX7_shrink 35 = .ok (.i2l, 1) := by decide +kernel
theorem dX7_shrink_36 : decode cX7_shrink 36 = .ok (.lconst 0, 1) := by decide +kernel
theorem dX7_shrink_37 : decode cX7_shrink 37 = .ok (.ldc2_w 161, 3) := by decide +kernel
theorem dX7_shrink_40 : decode cX7_shrink 40 = .ok (.invokestatic 149, 3) := by decide +kernel
theorem dX7_shrink_43 : decode cX7_shrink 43 = .ok (.ifCond .ne 6, 3) := by decide +kernel
theorem dX7_shrink_46 : decode cX7_shrink 46 = .ok (.bipush (-2), 2) := by decide +kernel
theorem dX7_shrink_48 : decode cX7_shrink 48 = .ok (.ireturn, 1) := by decide +kernel
theorem dX7_shrink_49 : decode cX7_shrink 49 = .ok (.aload_n 0, 1) := by decide +kernel
theorem dX7_shrink_50 : decode cX7_shrink 50 = .ok (.getfield 41, 3) := by decide +kernel
theorem dX7_shrink_53 : decode cX7_shrink 53 = .ok (.bipush 13, 2) := by decide +kernel
theorem dX7_shrink_55 : decode cX7_shrink 55 = .ok (.iload_n 1, 1) := by decide +kernel
theorem dX7_shrink_56 : decode cX7_shrink 56 = .ok (.imul, 1) := by decide +kernel
theorem dX7_shrink_57 : decode cX7_shrink 57 = .ok (.iload_n 2, 1) := by decide +kernel
theorem dX7_shrink_58 : decode cX7_shrink 58 = .ok (.iadd, 1) := by decide +kernel
theorem dX7_shrink_59 : decode cX7_shrink 59 = .ok (.iload_n 3, 1) := by decide +kernel
theorem dX7_shrink_60 : decode cX7_shrink 60 = .ok (.iastore, 1) := by decide +kernel
theorem dX7_shrink_61 : decode cX7_shrink 61 = .ok (.aload_n 0, 1) := by decide +kernel
theorem dX7_shrink_62 : decode cX7_shrink 62 = .ok (.getfield 44, 3) := by decide +kernel
theorem dX7_shrink_65 : decode cX7_shrink 65 = .ok (.bipush 13, 2) := by decide +kernel
theorem dX7_shrink_67 : decode cX7_shrink 67 = .ok (.iload_n 1, 1) := by decide +kernel
theorem dX7_shrink_68 : decode cX7_shrink 68 = .ok (.imul, 1) := by decide +kernel
theorem dX7_shrink_69 : decode cX7_shrink 69 = .ok (.iload_n 2, 1) := by decide +kernel
theorem dX7_shrink_70 : decode cX7_shrink 70 = .ok (.iadd, 1) := by decide +kernel
theorem dX7_shrink_71 : decode cX7_shrink 71 = .ok (.iload 4, 2) := by decide +kernel
theorem dX7_shrink_73 : decode cX7_shrink 73 = .ok (.iastore, 1) := by decide +kernel
theorem dX7_shrink_74 : decode cX7_shrink 74 = .ok (.iconst 1, 1) := by decide +kernel
theorem dX7_shrink_75 : decode cX7_shrink 75 = .ok (.ireturn, 1) := by decide +kernel
theorem dX7_stand_0 : decode cX7_stand 0 = .ok (.aload_n 0, 1) := by decide +kernel
theorem dX7_stand_1 : decode cX7_stand 1 = .ok (.getfield 74, 3) := by decide +kernel
theorem dX7_stand_4 : decode cX7_stand 4 = .ok (.bipush 40, 2) := by decide +kernel
theorem dX7_stand_6 : decode cX7_stand 6 = .ok (.iload_n 1, 1) := by decide +kernel
theorem dX7_stand_7 : decode cX7_stand 7 = .ok (.imul, 1) := by decide +kernel
theorem dX7_stand_8 : decode cX7_stand 8 = .ok (.aload_n 0, 1) := by decide +kernel
theorem dX7_stand_9 : decode cX7_stand 9 = .ok (.getfield 71, 3) := by decide +kernel
theorem dX7_stand_12 : decode cX7_stand 12 = .ok (.iload_n 1, 1) := by decide +kernel
theorem dX7_stand_13 : decode cX7_stand 13 = .ok (.iaload, 1) := by decide +kernel
theorem dX7_stand_14 : decode cX7_stand 14 = .ok (.iadd, 1) := by decide +kernel
theorem dX7_stand_15 : decode cX7_stand 15 = .ok (.iload_n 2, 1) := by decide +kernel
theorem dX7_stand_16 : decode cX7_stand 16 = .ok (.iastore, 1) := by decide +kernel
theorem dX7_stand_17 : decode cX7_stand 17 = .ok (.aload_n 0, 1) := by decide +kernel
theorem dX7_stand_18 : decode cX7_stand 18 = .ok (.getfield 71, 3) := by decide +kernel
theorem dX7_stand_21 : decode cX7_stand 21 = .ok (.iload_n 1, 1) := by decide +kernel
theorem dX7_stand_22 : decode cX7_stand 22 = .ok (.dup2, 1) := by decide +kernel
theorem dX7_stand_23 : decode cX7_stand 23 = .ok (.iaload, 1) := by decide +kernel
theorem dX7_stand_24 : decode cX7_stand 24 = .ok (.iconst 1, 1) := by decide +kernel
theorem dX7_stand_25 : decode cX7_stand 25 = .ok (.iadd, 1) := by decide +kernel
theorem dX7_stand_26 : decode cX7_stand 26 = .ok (.iastore, 1) := by decide +kernel
theorem dX7_stand_27 : decode cX7_stand 27 = .ok (.return_, 1) := by decide +kernel
theorem dX7_row_0 : decode cX7_row 0 = .ok (.aload_n 0, 1) := by decide +kernel
theorem dX7_row_1 : decode cX7_row 1 = .ok (.iconst 0, 1) := by decide +kernel
theorem dX7_row_2 : decode cX7_row 2 = .ok (.putfield 114, 3) := by decide +kernel
theorem dX7_row_5 : decode cX7_row 5 = .ok (.aload_n 0, 1) := by decide +kernel
theorem dX7_row_6 : decode cX7_row 6 = .ok (.iload_n 1, 1) := by decide +kernel
theorem dX7_row_7 : decode cX7_row 7 = .ok (.invokevirtual 121, 3) := by decide +kernel
theorem dX7_row_10 : decode cX7_row 10 = .ok (.ifCond .ne 5, 3) := by decide +kernel
theorem dX7_row_13 : decode cX7_row 13 = .ok (.iconst (-1), 1) := by decide +kernel
theorem dX7_row_14 : decode cX7_row 14 = .ok (.ireturn, 1) := by decide +kernel
theorem dX7_row_15 : decode cX7_row 15 = .ok (.aload_n 0, 1) := by decide +kernel
theorem dX7_row_16 : decode cX7_row 16 = .ok (.getfield 16, 3) := by decide +kernel
theorem dX7_row_19 : decode cX7_row 19 = .ok (.iload_n 1, 1) := by decide +kernel
theorem dX7_row_20 : decode cX7_row 20 = .ok (.baload, 1) := by decide +kernel
theorem dX7_row_21 : decode cX7_row 21 = .ok (.ifCond .eq 12, 3) := by decide +kernel
theorem dX7_row_24 : decode cX7_row 24 = .ok (.aload_n 0, 1) := by decide +kernel
theorem dX7_row_25 : decode cX7_row 25 = .ok (.getfield 50, 3) := by decide +kernel
theorem dX7_row_28 : decode cX7_row 28 = .ok (.iload_n 1, 1) := by decide +kernel
theorem dX7_row_29 : decode cX7_row 29 = .ok (.baload, 1) := by decide +kernel
theorem dX7_row_30 : decode cX7_row 30 = .ok (.ifCond .eq 6, 3) := by decide +kernel
theorem dX7_row_33 : decode cX7_row 33 = .ok (.bipush (-3), 2) := by decide +kernel
theorem dX7_row_35 : decode cX7_row 35 = .ok (.ireturn, 1) := by decide +kernel
theorem dX7_row_36 : decode cX7_row 36 = .ok (.aload_n 0, 1) := by decide +kernel
theorem dX7_row_37 : decode cX7_row 37 = .ok (.getfield 47, 3) := by decide +kernel
theorem dX7_row_40 : decode cX7_row 40 = .ok (.iload_n 1, 1) := by decide +kernel
theorem dX7_row_41 : decode cX7_row 41 = .ok (.iaload, 1) := by decide +kernel
theorem dX7_row_42 : decode cX7_row 42 = .ok (.bipush 20, 2) := by decide +kernel
theorem dX7_row_44 : decode cX7_row 44 = .ok (.if_icmp .ne 6, 3) := by decide +kernel
theorem dX7_row_47 : decode cX7_row 47 = .ok (.bipush (-4), 2) := by decide +kernel
theorem dX7_row_49 : decode cX7_row 49 = .ok (.ireturn, 1) := by decide +kernel
theorem dX7_row_50 : decode cX7_row 50 = .ok (.aload_n 0, 1) := by decide +kernel
theorem dX7_row_51 : decode cX7_row 51 = .ok (.getfield 50, 3) := by decide +kernel
theorem dX7_row_54 : decode cX7_row 54 = .ok (.iload_n 1, 1) := by decide +kernel
theorem dX7_row_55 : decode cX7_row 55 = .ok (.iconst 1, 1) := by decide +kernel
theorem dX7_row_56 : decode cX7_row 56 = .ok (.bastore, 1) := by decide +kernel
theorem dX7_row_57 : decode cX7_row 57 = .ok (.aload_n 0, 1) := by decide +kernel
theorem dX7_row_58 : decode cX7_row 58 = .ok (.getfield 53, 3) := by decide +kernel
theorem dX7_row_61 : decode cX7_row 61 = .ok (.bipush 20, 2) := by decide +kernel
theorem dX7_row_63 : decode cX7_row 63 = .ok (.iload_n 1, 1) := by decide +kernel
theorem dX7_row_64 : decode cX7_row 64 = .ok (.imul, 1) := by decide +kernel
theorem dX7_row_65 : decode cX7_row 65 = .ok (.aload_n 0, 1) := by decide +kernel
theorem dX7_row_66 : decode cX7_row 66 = .ok (.getfield 47, 3) := by decide +kernel
theorem dX7_row_69 : decode cX7_row 69 = .ok (.iload_n 1, 1) := by decide +kernel
theorem dX7_row_70 : decode cX7_row 70 = .ok (.iaload, 1) := by decide +kernel
theorem dX7_row_71 : decode cX7_row 71 = .ok (.iadd, 1) := by decide +kernel
theorem dX7_row_72 : decode cX7_row 72 = .ok (.aload_n 0, 1) := by decide +kernel
theorem dX7_row_73 : decode cX7_row 73 = .ok (.getfield 59, 3) := by decide +kernel
theorem dX7_row_76 : decode cX7_row 76 = .ok (.iload_n 1, 1) := by decide +kernel
theorem dX7_row_77 : decode cX7_row 77 = .ok (.iaload, 1) := by decide +kernel
theorem dX7_row_78 : decode cX7_row 78 = .ok (.iastore, 1) := by decide +kernel
theorem dX7_row_79 : decode cX7_row 79 = .ok (.aload_n 0, 1) := by decide +kernel
theorem dX7_row_80 : decode cX7_row 80 = .ok (.getfield 56, 3) := by decide +kernel
theorem dX7_row_83 : decode cX7_row 83 = .ok (.bipush 20, 2) := by decide +kernel
theorem dX7_row_85 : decode cX7_row 85 = .ok (.iload_n 1, 1) := by decide +kernel
theorem dX7_row_86 : decode cX7_row 86 = .ok (.imul, 1) := by decide +kernel
theorem dX7_row_87 : decode cX7_row 87 = .ok (.aload_n 0, 1) := by decide +kernel
theorem dX7_row_88 : decode cX7_row 88 = .ok (.getfield 47, 3) := by decide +kernel
theorem dX7_row_91 : decode cX7_row 91 = .ok (.iload_n 1, 1) := by decide +kernel
theorem dX7_row_92 : decode cX7_row 92 = .ok (.iaload, 1) := by decide +kernel
theorem dX7_row_93 : decode cX7_row 93 = .ok (.iadd, 1) := by decide +kernel
theorem dX7_row_94 : decode cX7_row 94 = .ok (.iconst 0, 1) := by decide +kernel
theorem dX7_row_95 : decode cX7_row 95 = .ok (.iastore, 1) := by decide +kernel
theorem dX7_row_96 : decode cX7_row 96 = .ok (.aload_n 0, 1) := by decide +kernel
theorem dX7_row_97 : decode cX7_row 97 = .ok (.iload_n 1, 1) := by decide +kernel
theorem dX7_row_98 : decode cX7_row 98 = .ok (.aload_n 0, 1) := by decide +kernel
theorem dX7_row_99 : decode cX7_row 99 = .ok (.getfield 47, 3) := by decide +kernel
theorem dX7_row_102 : decode cX7_row 102 = .ok (.iload_n 1, 1) := by decide +kernel
theorem dX7_row_103 : decode cX7_row 103 = .ok (.iaload, 1) := by decide +kernel
theorem dX7_row_104 : decode cX7_row 104 = .ok (.invokevirtual 163, 3) := by decide +kernel
theorem dX7_row_107 : decode cX7_row 107 = .ok (.aload_n 0, 1) := by decide +kernel
theorem dX7_row_108 : decode cX7_row 108 = .ok (.getfield 47, 3) := by decide +kernel
theorem dX7_row_111 : decode cX7_row 111 = .ok (.iload_n 1, 1) := by decide +kernel
theorem dX7_row_112 : decode cX7_row 112 = .ok (.dup2, 1) := by decide +kernel
theorem dX7_row_113 : decode cX7_row 113 = .ok (.iaload, 1) := by decide +kernel
theorem dX7_row_114 : decode cX7_row 114 = .ok (.iconst 1, 1) := by decide +kernel
theorem dX7_row_115 : decode cX7_row 115 = .ok (.iadd, 1) := by decide +kernel
theorem dX7_row_116 : decode cX7_row 116 = .ok (.iastore, 1) := by decide +kernel
theorem dX7_row_117 : decode cX7_row 117 = .ok (.aload_n 0, 1) := by decide +kernel
theorem dX7_row_118 : decode cX7_row 118 = .ok (.getfield 47, 3) := by decide +kernel
theorem dX7_row_121 : decode cX7_row 121 = .ok (.iload_n 1, 1) := by decide +kernel
theorem dX7_row_122 : decode cX7_row 122 = .ok (.iaload, 1) := by decide +kernel
theorem dX7_row_123 : decode cX7_row 123 = .ok (.iconst 1, 1) := by decide +kernel
theorem dX7_row_124 : decode cX7_row 124 = .ok (.isub, 1) := by decide +kernel
theorem dX7_row_125 : decode cX7_row 125 = .ok (.ireturn, 1) := by decide +kernel
theorem dX7_free_0 : decode cX7_free 0 = .ok (.bipush 20, 2) := by decide +kernel
theorem dX7_free_2 : decode cX7_free 2 = .ok (.iload_n 1, 1) := by decide +kernel
theorem dX7_free_3 : decode cX7_free 3 = .ok (.imul, 1) := by decide +kernel
theorem dX7_free_4 : decode cX7_free 4 = .ok (.aload_n 0, 1) := by decide +kernel
theorem dX7_free_5 : decode cX7_free 5 = .ok (.getfield 47, 3) := by decide +kernel
theorem dX7_free_8 : decode cX7_free 8 = .ok (.iload_n 1, 1) := by decide +kernel
theorem dX7_free_9 : decode cX7_free 9 = .ok (.iaload, 1) := by decide +kernel
theorem dX7_free_10 : decode cX7_free 10 = .ok (.iadd, 1) := by decide +kernel
theorem dX7_free_11 : decode cX7_free 11 = .ok (.iconst 1, 1) := by decide +kernel
theorem dX7_free_12 : decode cX7_free 12 = .ok (.isub, 1) := by decide +kernel
theorem dX7_free_13 : decode cX7_free 13 = .ok (.istore_n 2, 1) := by decide +kernel
theorem dX7_free_14 : decode cX7_free 14 = .ok (.aload_n 0, 1) := by decide +kernel
theorem dX7_free_15 : decode cX7_free 15 = .ok (.getfield 56, 3) := by decide +kernel
theorem dX7_free_18 : decode cX7_free 18 = .ok (.iload_n 2, 1) := by decide +kernel
theorem dX7_free_19 : decode cX7_free 19 = .ok (.iaload, 1) := by decide +kernel
theorem dX7_free_20 : decode cX7_free 20 = .ok (.ifCond .ne 5, 3) := by decide +kernel
theorem dX7_free_23 : decode cX7_free 23 = .ok (.iconst 0, 1) := by decide +kernel
theorem dX7_free_24 : decode cX7_free 24 = .ok (.ireturn, 1) := by decide +kernel
theorem dX7_free_25 : decode cX7_free 25 = .ok (.sipush 480, 3) := by decide +kernel
theorem dX7_free_28 : decode cX7_free 28 = .ok (.iload_n 1, 1) := by decide +kernel
theorem dX7_free_29 : decode cX7_free 29 = .ok (.imul, 1) := by decide +kernel
theorem dX7_free_30 : decode cX7_free 30 = .ok (.aload_n 0, 1) := by decide +kernel
theorem dX7_free_31 : decode cX7_free 31 = .ok (.getfield 59, 3) := by decide +kernel
theorem dX7_free_34 : decode cX7_free 34 = .ok (.iload_n 1, 1) := by decide +kernel
theorem dX7_free_35 : decode cX7_free 35 = .ok (.iaload, 1) := by decide +kernel
theorem dX7_free_36 : decode cX7_free 36 = .ok (.iadd, 1) := by decide +kernel
theorem dX7_free_37 : decode cX7_free 37 = .ok (.iconst 1, 1) := by decide +kernel
theorem dX7_free_38 : decode cX7_free 38 = .ok (.isub, 1) := by decide +kernel
theorem dX7_free_39 : decode cX7_free 39 = .ok (.istore_n 3, 1) := by decide +kernel
theorem dX7_free_40 : decode cX7_free 40 = .ok (.aload_n 0, 1) := by decide +kernel
theorem dX7_free_41 : decode cX7_free 41 = .ok (.getfield 65, 3) := by decide +kernel
theorem dX7_free_44 : decode cX7_free 44 = .ok (.iload_n 3, 1) := by decide +kernel
theorem dX7_free_45 : decode cX7_free 45 = .ok (.iaload, 1) := by decide +kernel
theorem dX7_free_46 : decode cX7_free 46 = .ok (.aload_n 0, 1) := by decide +kernel
theorem dX7_free_47 : decode cX7_free 47 = .ok (.getfield 68, 3) := by decide +kernel
theorem dX7_free_50 : decode cX7_free 50 = .ok (.iload_n 3, 1) := by decide +kernel
theorem dX7_free_51 : decode cX7_free 51 = .ok (.iaload, 1) := by decide +kernel
theorem dX7_free_52 : decode cX7_free 52 = .ok (.iadd, 1) := by decide +kernel
theorem dX7_free_53 : decode cX7_free 53 = .ok (.ireturn, 1) := by decide +kernel
theorem dX7_add_0 : decode cX7_add 0 = .ok (.sipush 480, 3) := by decide +kernel
theorem dX7_add_3 : decode cX7_add 3 = .ok (.iload_n 1, 1) := by decide +kernel
theorem dX7_add_4 : decode cX7_add 4 = .ok (.imul, 1) := by decide +kernel
theorem dX7_add_5 : decode cX7_add 5 = .ok (.aload_n 0, 1) := by decide +kernel
theorem dX7_add_6 : decode cX7_add 6 = .ok (.getfield 59, 3) := by decide +kernel
theorem dX7_add_9 : decode cX7_add 9 = .ok (.iload_n 1, 1) := by decide +kernel
theorem dX7_add_10 : decode cX7_add 10 = .ok (.iaload, 1) := by decide +kernel
theorem dX7_add_11 : decode cX7_add 11 = .ok (.iadd, 1) := by decide +kernel
theorem dX7_add_12 : decode cX7_add 12 = .ok (.istore 4, 2) := by decide +kernel
theorem dX7_add_14 : decode cX7_add 14 = .ok (.aload_n 0, 1) := by decide +kernel
theorem dX7_add_15 : decode cX7_add 15 = .ok (.getfield 65, 3) := by decide +kernel
theorem dX7_add_18 : decode cX7_add 18 = .ok (.iload 4, 2) := by decide +kernel
theorem dX7_add_20 : decode cX7_add 20 = .ok (.aload_n 0, 1) := by decide +kernel
theorem dX7_add_21 : decode cX7_add 21 = .ok (.iload_n 1, 1) := by decide +kernel
theorem dX7_add_22 : decode cX7_add 22 = .ok (.invokevirtual 167, 3) := by decide +kernel
theorem dX7_add_25 : decode cX7_add 25 = .ok (.iastore, 1) := by decide +kernel
theorem dX7_add_26 : decode cX7_add 26 = .ok (.aload_n 0, 1) := by decide +kernel
theorem dX7_add_27 : decode cX7_add 27 = .ok (.getfield 68, 3) := by decide +kernel
theorem dX7_add_30 : decode cX7_add 30 = .ok (.iload 4, 2) := by decide +kernel
theorem dX7_add_32 : decode cX7_add 32 = .ok (.iload_n 3, 1) := by decide +kernel
theorem dX7_add_33 : decode cX7_add 33 = .ok (.iastore, 1) := by decide +kernel
theorem dX7_add_34 : decode cX7_add 34 = .ok (.aload_n 0, 1) := by decide +kernel
theorem dX7_add_35 : decode cX7_add 35 = .ok (.getfield 62, 3) := by decide +kernel
theorem dX7_add_38 : decode cX7_add 38 = .ok (.iload 4, 2) := by decide +kernel
theorem dX7_add_40 : decode cX7_add 40 = .ok (.iload_n 2, 1) := by decide +kernel
theorem dX7_add_41 : decode cX7_add 41 = .ok (.iastore, 1) := by decide +kernel
theorem dX7_add_42 : decode cX7_add 42 = .ok (.aload_n 0, 1) := by decide +kernel
theorem dX7_add_43 : decode cX7_add 43 = .ok (.getfield 59, 3) := by decide +kernel
theorem dX7_add_46 : decode cX7_add 46 = .ok (.iload_n 1, 1) := by decide +kernel
theorem dX7_add_47 : decode cX7_add 47 = .ok (.dup2, 1) := by decide +kernel
theorem dX7_add_48 : decode cX7_add 48 = .ok (.iaload, 1) := by decide +kernel
theorem dX7_add_49 : decode cX7_add 49 = .ok (.iconst 1, 1) := by decide +kernel
theorem dX7_add_50 : decode cX7_add 50 = .ok (.iadd, 1) := by decide +kernel
theorem dX7_add_51 : decode cX7_add 51 = .ok (.iastore, 1) := by decide +kernel
theorem dX7_add_52 : decode cX7_add 52 = .ok (.aload_n 0, 1) := by decide +kernel
theorem dX7_add_53 : decode cX7_add 53 = .ok (.getfield 56, 3) := by decide +kernel
theorem dX7_add_56 : decode cX7_add 56 = .ok (.bipush 20, 2) := by decide +kernel
theorem dX7_add_58 : decode cX7_add 58 = .ok (.iload_n 1, 1) := by decide +kernel
theorem dX7_add_59 : decode cX7_add 59 = .ok (.imul, 1) := by decide +kernel
theorem dX7_add_60 : decode cX7_add 60 = .ok (.aload_n 0, 1) := by decide +kernel
theorem dX7_add_61 : decode cX7_add 61 = .ok (.getfield 47, 3) := by decide +kernel
theorem dX7_add_64 : decode cX7_add 64 = .ok (.iload_n 1, 1) := by decide +kernel
theorem dX7_add_65 : decode cX7_add 65 = .ok (.iaload, 1) := by decide +kernel
theorem dX7_add_66 : decode cX7_add 66 = .ok (.iadd, 1) := by decide +kernel
theorem dX7_add_67 : decode cX7_add 67 = .ok (.iconst 1, 1) := by decide +kernel
theorem dX7_add_68 : decode cX7_add 68 = .ok (.isub, 1) := by decide +kernel
theorem dX7_add_69 : decode cX7_add 69 = .ok (.dup2, 1) := by decide +kernel
theorem dX7_add_70 : decode cX7_add 70 = .ok (.iaload, 1) := by decide +kernel
theorem dX7_add_71 : decode cX7_add 71 = .ok (.iconst 1, 1) := by decide +kernel
theorem dX7_add_72 : decode cX7_add 72 = .ok (.iadd, 1) := by decide +kernel
theorem dX7_add_73 : decode cX7_add 73 = .ok (.iastore, 1) := by decide +kernel
theorem dX7_add_74 : decode cX7_add 74 = .ok (.aload_n 0, 1) := by decide +kernel
theorem dX7_add_75 : decode cX7_add 75 = .ok (.getfield 65, 3) := by decide +kernel
theorem dX7_add_78 : decode cX7_add 78 = .ok (.iload 4, 2) := by decide +kernel
theorem dX7_add_80 : decode cX7_add 80 = .ok (.iaload, 1) := by decide +kernel
theorem dX7_add_81 : decode cX7_add 81 = .ok (.ireturn, 1) := by decide +kernel
theorem dX7_entry_0 : decode cX7_entry 0 = .ok (.aload_n 0, 1) := by decide +kernel
theorem dX7_entry_1 : decode cX7_entry 1 = .ok (.iconst 0, 1) := by decide +kernel
theorem dX7_entry_2 : decode cX7_entry 2 = .ok (.putfield 114, 3) := by decide +kernel
theorem dX7_entry_5 : decode cX7_entry 5 = .ok (.aload_n 0, 1) := by decide +kernel
theorem dX7_entry_6 : decode cX7_entry 6 = .ok (.iload_n 1, 1) := by decide +kernel
theorem dX7_entry_7 : decode cX7_entry 7 = .ok (.invokevirtual 121, 3) := by decide +kernel
theorem dX7_entry_10 : decode cX7_entry 10 = .ok (.ifCond .ne 5, 3) := by decide +kernel
theorem dX7_entry_13 : decode cX7_entry 13 = .ok (.iconst (-1), 1) := by decide +kernel
theorem dX7_entry_14 : decode cX7_entry 14 = .ok (.ireturn, 1) := by decide +kernel
theorem dX7_entry_15 : decode cX7_entry 15 = .ok (.aload_n 0, 1) := by decide +kernel
theorem dX7_entry_16 : decode cX7_entry 16 = .ok (.getfield 50, 3) := by decide +kernel
theorem dX7_entry_19 : decode cX7_entry 19 = .ok (.iload_n 1, 1) := by decide +kernel
theorem dX7_entry_20 : decode cX7_entry 20 = .ok (.baload, 1) := by decide +kernel
theorem dX7_entry_21 : decode cX7_entry 21 = .ok (.ifCond .ne 6, 3) := by decide +kernel
theorem dX7_entry_24 : decode cX7_entry 24 = .ok (.bipush (-3), 2) := by decide +kernel
theorem dX7_entry_26 : decode cX7_entry 26 = .ok (.ireturn, 1) := by decide +kernel
theorem dX7_entry_27 : decode cX7_entry 27 = .ok (.iload_n 2, 1) := by decide +kernel
theorem dX7_entry_28 : decode cX7_entry 28 = .ok (.i2l, 1) := by decide +kernel
theorem dX7_entry_29 : decode cX7_entry 29 = .ok (.lconst 0, 1) := by decide +kernel
theorem dX7_entry_30 : decode cX7_entry 30 = .ok (.ldc2_w 170, 3) := by decide +kernel
theorem dX7_entry_33 : decode cX7_entry 33 = .ok (.invokestatic 149, 3) := by decide +kernel
theorem dX7_entry_36 : decode cX7_entry 36 = .ok (.ifCond .eq 15, 3) := by decide +kernel
theorem dX7_entry_39 : decode cX7_entry 39 = .ok (.iload_n 3, 1) := by decide +kernel
theorem dX7_entry_40 : decode cX7_entry 40 = .ok (.i2l, 1) := by decide +kernel
theorem dX7_entry_41 : decode cX7_entry 41 = .ok (.lconst 1, 1) := by decide +kernel
theorem dX7_entry_42 : decode cX7_entry 42 = .ok (.ldc2_w 172, 3) := by decide +kernel
theorem dX7_entry_45 : decode cX7_entry 45 = .ok (.invokestatic 149, 3) := by decide +kernel
theorem dX7_entry_48 : decode cX7_entry 48 = .ok (.ifCond .ne 6, 3) := by decide +kernel
theorem dX7_entry_51 : decode cX7_entry 51 = .ok (.bipush (-2), 2) := by decide +kernel
theorem dX7_entry_53 : decode cX7_entry 53 = .ok (.ireturn, 1) := by decide +kernel
theorem dX7_entry_54 : decode cX7_entry 54 = .ok (.aload_n 0, 1) := by decide +kernel
theorem dX7_entry_55 : decode cX7_entry 55 = .ok (.iload_n 1, 1) := by decide +kernel
theorem dX7_entry_56 : decode cX7_entry 56 = .ok (.invokevirtual 167, 3) := by decide +kernel
theorem dX7_entry_59 : decode cX7_entry 59 = .ok (.istore 5, 2) := by decide +kernel
theorem dX7_entry_61 : decode cX7_entry 61 = .ok (.iload 5, 2) := by decide +kernel
theorem dX7_entry_63 : decode cX7_entry 63 = .ok (.iload_n 3, 1) := by decide +kernel
theorem dX7_entry_64 : decode cX7_entry 64 = .ok (.iadd, 1) := by decide +kernel
theorem dX7_entry_65 : decode cX7_entry 65 = .ok (.aload_n 0, 1) := by decide +kernel
theorem dX7_entry_66 : decode cX7_entry 66 = .ok (.iload_n 1, 1) := by decide +kernel
theorem dX7_entry_67 : decode cX7_entry 67 = .ok (.invokevirtual 174, 3) := by decide +kernel
theorem dX7_entry_70 : decode cX7_entry 70 = .ok (.if_icmp .le 5, 3) := by decide +kernel
theorem dX7_entry_73 : decode cX7_entry 73 = .ok (.iconst (-1), 1) := by decide +kernel
theorem dX7_entry_74 : decode cX7_entry 74 = .ok (.ireturn, 1) := by decide +kernel
theorem dX7_entry_75 : decode cX7_entry 75 = .ok (.iload 4, 2) := by decide +kernel
theorem dX7_entry_77 : decode cX7_entry 77 = .ok (.ifCond .eq 7, 3) := by decide +kernel
theorem dX7_entry_80 : decode cX7_entry 80 = .ok (.iconst 0, 1) := by decide +kernel
theorem dX7_entry_81 : decode cX7_entry 81 = .ok (.goto 42, 3) := by decide +kernel
theorem dX7_entry_84 : decode cX7_entry 84 = .ok (.aload_n 0, 1) := by decide +kernel
theorem dX7_entry_85 : decode cX7_entry 85 = .ok (.getfield 26, 3) := by decide +kernel
theorem dX7_entry_88 : decode cX7_entry 88 = .ok (.bipush 12, 2) := by decide +kernel
theorem dX7_entry_90 : decode cX7_entry 90 = .ok (.iload_n 1, 1) := by decide +kernel
theorem dX7_entry_91 : decode cX7_entry 91 = .ok (.imul, 1) := by decide +kernel
theorem dX7_entry_92 : decode cX7_entry 92 = .ok (.aload_n 0, 1) := by decide +kernel
theorem dX7_entry_93 : decode cX7_entry 93 = .ok (.iload_n 1, 1) := by decide +kernel
theorem dX7_entry_94 : decode cX7_entry 94 = .ok (.iload 5, 2) := by decide +kernel
theorem dX7_entry_96 : decode cX7_entry 96 = .ok (.invokevirtual 177, 3) := by decide +kernel
theorem dX7_entry_99 : decode cX7_entry 99 = .ok (.iadd, 1) := by decide +kernel
theorem dX7_entry_100 : decode cX7_entry 100 = .ok (.iaload, 1) := by decide +kernel
theorem dX7_entry_101 : decode cX7_entry 101 = .ok (.aload_n 0, 1) := by decide +kernel
theorem dX7_entry_102 : decode cX7_entry 102 = .ok (.getfield 29, 3) := by decide +kernel
theorem dX7_entry_105 : decode cX7_entry 105 = .ok (.bipush 12, 2) := by decide +kernel
theorem dX7_entry_107 : decode cX7_entry 107 = .ok (.iload_n 1, 1) := by decide +kernel
theorem dX7_entry_108 : decode cX7_entry 108 = .ok (.imul, 1) := by decide +kernel
theorem dX7_entry_109 : decode cX7_entry 109 = .ok (.aload_n 0, 1) := by decide +kernel
theorem dX7_entry_110 : decode cX7_entry 110 = .ok (.iload_n 1, 1) := by decide +kernel
theorem dX7_entry_111 : decode cX7_entry 111 = .ok (.iload 5, 2) := by decide +kernel
theorem dX7_entry_113 : decode cX7_entry 113 = .ok (.iload_n 3, 1) := by decide +kernel
theorem dX7_entry_114 : decode cX7_entry 114 = .ok (.iadd, 1) := by decide +kernel
theorem dX7_entry_115 : decode cX7_entry 115 = .ok (.iconst 1, 1) := by decide +kernel
theorem dX7_entry_116 : decode cX7_entry 116 = .ok (.isub, 1) := by decide +kernel
theorem dX7_entry_117 : decode cX7_entry 117 = .ok (.invokevirtual 177, 3) := by decide +kernel
theorem dX7_entry_120 : decode cX7_entry 120 = .ok (.iadd, 1) := by decide +kernel
theorem dX7_entry_121 : decode cX7_entry 121 = .ok (.iaload, 1) := by decide +kernel
theorem dX7_entry_122 : decode cX7_entry 122 = .ok (.iadd, 1) := by decide +kernel
theorem dX7_entry_123 : decode cX7_entry 123 = .ok (.istore 6, 2) := by decide +kernel
theorem dX7_entry_125 : decode cX7_entry 125 = .ok (.aload_n 0, 1) := by decide +kernel
theorem dX7_entry_126 : decode cX7_entry 126 = .ok (.iload_n 1, 1) := by decide +kernel
theorem dX7_entry_127 : decode cX7_entry 127 = .ok (.iload_n 2, 1) := by decide +kernel
theorem dX7_entry_128 : decode cX7_entry 128 = .ok (.iload 6, 2) := by decide +kernel
theorem dX7_entry_130 : decode cX7_entry 130 = .ok (.iadd, 1) := by decide +kernel
theorem dX7_entry_131 : decode cX7_entry 131 = .ok (.iload_n 3, 1) := by decide +kernel
theorem dX7_entry_132 : decode cX7_entry 132 = .ok (.invokevirtual 180, 3) := by decide +kernel
theorem dX7_entry_135 : decode cX7_entry 135 = .ok (.ireturn, 1) := by decide +kernel
theorem dX7_nest_0 : decode cX7_nest 0 = .ok (.aload_n 0, 1) := by decide +kernel
theorem dX7_nest_1 : decode cX7_nest 1 = .ok (.iconst 0, 1) := by decide +kernel
theorem dX7_nest_2 : decode cX7_nest 2 = .ok (.putfield 114, 3) := by decide +kernel
theorem dX7_nest_5 : decode cX7_nest 5 = .ok (.aload_n 0, 1) := by decide +kernel
theorem dX7_nest_6 : decode cX7_nest 6 = .ok (.iload_n 1, 1) := by decide +kernel
theorem dX7_nest_7 : decode cX7_nest 7 = .ok (.invokevirtual 121, 3) := by decide +kernel
theorem dX7_nest_10 : decode cX7_nest 10 = .ok (.ifCond .eq 11, 3) := by decide +kernel
theorem dX7_nest_13 : decode cX7_nest 13 = .ok (.aload_n 0, 1) := by decide +kernel
theorem dX7_nest_14 : decode cX7_nest 14 = .ok (.iload_n 2, 1) := by decide +kernel
theorem dX7_nest_15 : decode cX7_nest 15 = .ok (.invokevirtual 121, 3) := by decide +kernel
theorem dX7_nest_18 : decode cX7_nest 18 = .ok (.ifCond .ne 5, 3) := by decide +kernel
theorem dX7_nest_21 : decode cX7_nest 21 = .ok (.iconst (-1), 1) := by decide +kernel
theorem dX7_nest_22 : decode cX7_nest 22 = .ok (.ireturn, 1) := by decide +kernel
theorem dX7_nest_23 : decode cX7_nest 23 = .ok (.aload_n 0, 1) := by decide +kernel
theorem dX7_nest_24 : decode cX7_nest 24 = .ok (.getfield 50, 3) := by decide +kernel
theorem dX7_nest_27 : decode cX7_nest 27 = .ok (.iload_n 1, 1) := by decide +kernel
theorem dX7_nest_28 : decode cX7_nest 28 = .ok (.baload, 1) := by decide +kernel
theorem dX7_nest_29 : decode cX7_nest 29 = .ok (.ifCond .eq 33, 3) := by decide +kernel
theorem dX7_nest_32 : decode cX7_nest 32 = .ok (.iload_n 1, 1) := by decide +kernel
theorem dX7_nest_33 : decode cX7_nest 33 = .ok (.iload_n 2, 1) := by decide +kernel
theorem dX7_nest_34 : decode cX7_nest 34 = .ok (.if_icmp .eq 28, 3) := by decide +kernel
theorem dX7_nest_37 : decode cX7_nest 37 = .ok (.aload_n 0, 1) := by decide +kernel
theorem dX7_nest_38 : decode cX7_nest 38 = .ok (.getfield 80, 3) := by decide +kernel
theorem dX7_nest_41 : decode cX7_nest 41 = .ok (.iload_n 2, 1) := by decide +kernel
theorem dX7_nest_42 : decode cX7_nest 42 = .ok (.iaload, 1) := by decide +kernel
theorem dX7_nest_43 : decode cX7_nest 43 = .ok (.ifCond .eq 19, 3) := by decide +kernel
theorem dX7_nest_46 : decode cX7_nest 46 = .ok (.aload_n 0, 1) := by decide +kernel
theorem dX7_nest_47 : decode cX7_nest 47 = .ok (.getfield 99, 3) := by decide +kernel
theorem dX7_nest_50 : decode cX7_nest 50 = .ok (.iload_n 2, 1) := by decide +kernel
theorem dX7_nest_51 : decode cX7_nest 51 = .ok (.laload, 1) := by decide +kernel
theorem dX7_nest_52 : decode cX7_nest 52 = .ok (.lconst 0, 1) := by decide +kernel
theorem dX7_nest_53 : decode cX7_nest 53 = .ok (.ldc2_w 170, 3) := by decide +kernel
theorem dX7_nest_56 : decode cX7_nest 56 = .ok (.invokestatic 149, 3) := by decide +kernel
theorem dX7_nest_59 : decode cX7_nest 59 = .ok (.ifCond .ne 6, 3) := by decide +kernel
theorem dX7_nest_62 : decode cX7_nest 62 = .ok (.bipush (-3), 2) := by decide +kernel
theorem dX7_nest_64 : decode cX7_nest 64 = .ok (.ireturn, 1) := by decide +kernel
theorem dX7_nest_65 : decode cX7_nest 65 = .ok (.iload_n 3, 1) := by decide +kernel
theorem dX7_nest_66 : decode cX7_nest 66 = .ok (.i2l, 1) := by decide +kernel
theorem dX7_nest_67 : decode cX7_nest 67 = .ok (.lconst 1, 1) := by decide +kernel
theorem dX7_nest_68 : decode cX7_nest 68 = .ok (.ldc2_w 172, 3) := by decide +kernel
theorem dX7_nest_71 : decode cX7_nest 71 = .ok (.invokestatic 149, 3) := by decide +kernel
theorem dX7_nest_74 : decode cX7_nest 74 = .ok (.ifCond .ne 6, 3) := by decide +kernel
theorem dX7_nest_77 : decode cX7_nest 77 = .ok (.bipush (-2), 2) := by decide +kernel
theorem dX7_nest_79 : decode cX7_nest 79 = .ok (.ireturn, 1) := by decide +kernel
theorem dX7_nest_80 : decode cX7_nest 80 = .ok (.aload_n 0, 1) := by decide +kernel
theorem dX7_nest_81 : decode cX7_nest 81 = .ok (.iload_n 1, 1) := by decide +kernel
theorem dX7_nest_82 : decode cX7_nest 82 = .ok (.invokevirtual 167, 3) := by decide +kernel
theorem dX7_nest_85 : decode cX7_nest 85 = .ok (.iload_n 3, 1) := by decide +kernel
theorem dX7_nest_86 : decode cX7_nest 86 = .ok (.iadd, 1) := by decide +kernel
theorem dX7_nest_87 : decode cX7_nest 87 = .ok (.aload_n 0, 1) := by decide +kernel
theorem dX7_nest_88 : decode cX7_nest 88 = .ok (.iload_n 1, 1) := by decide +kernel
theorem dX7_nest_89 : decode cX7_nest 89 = .ok (.invokevirtual 174, 3) := by decide +kernel
theorem dX7_nest_92 : decode cX7_nest 92 = .ok (.if_icmp .le 7, 3) := by decide +kernel
theorem dX7_nest_95 : decode cX7_nest 95 = .ok (.iconst (-1), 1) := by decide +kernel
theorem dX7_nest_96 : decode cX7_nest 96 = .ok (.goto 16, 3) := by decide +kernel
theorem dX7_nest_99 : decode cX7_nest 99 = .ok (.aload_n 0, 1) := by decide +kernel
theorem dX7_nest_100 : decode cX7_nest 100 = .ok (.iload_n 1, 1) := by decide +kernel
theorem dX7_nest_101 : decode cX7_nest 101 = .ok (.aload_n 0, 1) := by decide +kernel
theorem dX7_nest_102 : decode cX7_nest 102 = .ok (.getfield 99, 3) := by decide +kernel
theorem dX7_nest_105 : decode cX7_nest 105 = .ok (.iload_n 2, 1) := by decide +kernel
theorem dX7_nest_106 : decode cX7_nest 106 = .ok (.laload, 1) := by decide +kernel
theorem dX7_nest_107 : decode cX7_nest 107 = .ok (.l2i, 1) := by decide +kernel
theorem dX7_nest_108 : decode cX7_nest 108 = .ok (.iload_n 3, 1) := by decide +kernel
theorem dX7_nest_109 : decode cX7_nest 109 = .ok (.invokevirtual 180, 3) := by decide +kernel
theorem dX7_nest_112 : decode cX7_nest 112 = .ok (.ireturn, 1) := by decide +kernel
theorem dX7_end_0 : decode cX7_end 0 = .ok (.aload_n 0, 1) := by decide +kernel
theorem dX7_end_1 : decode cX7_end 1 = .ok (.iconst 0, 1) := by decide +kernel
theorem dX7_end_2 : decode cX7_end 2 = .ok (.putfield 114, 3) := by decide +kernel
theorem dX7_end_5 : decode cX7_end 5 = .ok (.aload_n 0, 1) := by decide +kernel
theorem dX7_end_6 : decode cX7_end 6 = .ok (.iload_n 1, 1) := by decide +kernel
theorem dX7_end_7 : decode cX7_end 7 = .ok (.invokevirtual 121, 3) := by decide +kernel
theorem dX7_end_10 : decode cX7_end 10 = .ok (.ifCond .ne 5, 3) := by decide +kernel
theorem dX7_end_13 : decode cX7_end 13 = .ok (.iconst (-1), 1) := by decide +kernel
