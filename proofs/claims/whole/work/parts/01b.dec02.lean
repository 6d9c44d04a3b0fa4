theorem dX11_doubt_4 : decode cX11_doubt 4 = .ok (.invokevirtual 272, 3) := by decide +kernel
theorem dX11_doubt_7 : decode cX11_doubt 7 = .ok (.aload_n 0, 1) := by decide +kernel
theorem dX11_doubt_8 : decode cX11_doubt 8 = .ok (.getfield 57, 3) := by decide +kernel
theorem dX11_doubt_11 : decode cX11_doubt 11 = .ok (.getfield 103, 3) := by decide +kernel
theorem dX11_doubt_14 : decode cX11_doubt 14 = .ok (.imul, 1) := by decide +kernel
theorem dX11_doubt_15 : decode cX11_doubt 15 = .ok (.istore_n 1, 1) := by decide +kernel
theorem dX11_doubt_16 : decode cX11_doubt 16 = .ok (.iload_n 1, 1) := by decide +kernel
theorem dX11_doubt_17 : decode cX11_doubt 17 = .ok (.iconst 1, 1) := by decide +kernel
theorem dX11_doubt_18 : decode cX11_doubt 18 = .ok (.if_icmp .ge 5, 3) := by decide +kernel
theorem dX11_doubt_21 : decode cX11_doubt 21 = .ok (.dconst 0, 1) := by decide +kernel
theorem dX11_doubt_22 : decode cX11_doubt 22 = .ok (.dreturn, 1) := by decide +kernel
theorem dX11_doubt_23 : decode cX11_doubt 23 = .ok (.aload_n 0, 1) := by decide +kernel
theorem dX11_doubt_24 : decode cX11_doubt 24 = .ok (.getfield 43, 3) := by decide +kernel
theorem dX11_doubt_27 : decode cX11_doubt 27 = .ok (.aload_n 0, 1) := by decide +kernel
theorem dX11_doubt_28 : decode cX11_doubt 28 = .ok (.getfield 57, 3) := by decide +kernel
theorem dX11_doubt_31 : decode cX11_doubt 31 = .ok (.invokevirtual 212, 3) := by decide +kernel
theorem dX11_doubt_34 : decode cX11_doubt 34 = .ok (.i2d, 1) := by decide +kernel
theorem dX11_doubt_35 : decode cX11_doubt 35 = .ok (.iload_n 1, 1) := by decide +kernel
theorem dX11_doubt_36 : decode cX11_doubt 36 = .ok (.i2d, 1) := by decide +kernel
theorem dX11_doubt_37 : decode cX11_doubt 37 = .ok (.ddiv, 1) := by decide +kernel
theorem dX11_doubt_38 : decode cX11_doubt 38 = .ok (.dreturn, 1) := by decide +kernel
theorem dX11_digest_0 : decode cX11_digest 0 = .ok (.ldc2_w 275, 3) := by decide +kernel
theorem dX11_digest_3 : decode cX11_digest 3 = .ok (.lstore_n 1, 1) := by decide +kernel
theorem dX11_digest_4 : decode cX11_digest 4 = .ok (.iconst 0, 1) := by decide +kernel
theorem dX11_digest_5 : decode cX11_digest 5 = .ok (.istore_n 3, 1) := by decide +kernel
theorem dX11_digest_6 : decode cX11_digest 6 = .ok (.iload_n 3, 1) := by decide +kernel
theorem dX11_digest_7 : decode cX11_digest 7 = .ok (.bipush 10, 2) := by decide +kernel
theorem dX11_digest_9 : decode cX11_digest 9 = .ok (.if_icmp .gt 22, 3) := by decide +kernel
theorem dX11_digest_12 : decode cX11_digest 12 = .ok (.lload_n 1, 1) := by decide +kernel
theorem dX11_digest_13 : decode cX11_digest 13 = .ok (.ldc2_w 277, 3) := by decide +kernel
theorem dX11_digest_16 : decode cX11_digest 16 = .ok (.lmul, 1) := by decide +kernel
theorem dX11_digest_17 : decode cX11_digest 17 = .ok (.aload_n 0, 1) := by decide +kernel
theorem dX11_digest_18 : decode cX11_digest 18 = .ok (.iload_n 3, 1) := by decide +kernel
theorem dX11_digest_19 : decode cX11_digest 19 = .ok (.invokevirtual 279, 3) := by decide +kernel
theorem dX11_digest_22 : decode cX11_digest 22 = .ok (.i2l, 1) := by decide +kernel
theorem dX11_digest_23 : decode cX11_digest 23 = .ok (.ladd, 1) := by decide +kernel
theorem dX11_digest_24 : decode cX11_digest 24 = .ok (.lstore_n 1, 1) := by decide +kernel
theorem dX11_digest_25 : decode cX11_digest 25 = .ok (.iinc 3 1, 3) := by decide +kernel
theorem dX11_digest_28 : decode cX11_digest 28 = .ok (.goto (-22), 3) := by decide +kernel
theorem dX11_digest_31 : decode cX11_digest 31 = .ok (.iconst 0, 1) := by decide +kernel
theorem dX11_digest_32 : decode cX11_digest 32 = .ok (.istore_n 3, 1) := by decide +kernel
theorem dX11_digest_33 : decode cX11_digest 33 = .ok (.iload_n 3, 1) := by decide +kernel
theorem dX11_digest_34 : decode cX11_digest 34 = .ok (.aload_n 0, 1) := by decide +kernel
theorem dX11_digest_35 : decode cX11_digest 35 = .ok (.getfield 57, 3) := by decide +kernel
theorem dX11_digest_38 : decode cX11_digest 38 = .ok (.getfield 106, 3) := by decide +kernel
theorem dX11_digest_41 : decode cX11_digest 41 = .ok (.if_icmp .ge 40, 3) := by decide +kernel
theorem dX11_digest_44 : decode cX11_digest 44 = .ok (.iconst 0, 1) := by decide +kernel
theorem dX11_digest_45 : decode cX11_digest 45 = .ok (.istore 4, 2) := by decide +kernel
theorem dX11_digest_47 : decode cX11_digest 47 = .ok (.iload 4, 2) := by decide +kernel
theorem dX11_digest_49 : decode cX11_digest 49 = .ok (.bipush 9, 2) := by decide +kernel
theorem dX11_digest_51 : decode cX11_digest 51 = .ok (.if_icmp .gt 24, 3) := by decide +kernel
theorem dX11_digest_54 : decode cX11_digest 54 = .ok (.lload_n 1, 1) := by decide +kernel
theorem dX11_digest_55 : decode cX11_digest 55 = .ok (.ldc2_w 277, 3) := by decide +kernel
theorem dX11_digest_58 : decode cX11_digest 58 = .ok (.lmul, 1) := by decide +kernel
theorem dX11_digest_59 : decode cX11_digest 59 = .ok (.aload_n 0, 1) := by decide +kernel
theorem dX11_digest_60 : decode cX11_digest 60 = .ok (.iload_n 3, 1) := by decide +kernel
theorem dX11_digest_61 : decode cX11_digest 61 = .ok (.iload 4, 2) := by decide +kernel
theorem dX11_digest_63 : decode cX11_digest 63 = .ok (.invokevirtual 282, 3) := by decide +kernel
theorem dX11_digest_66 : decode cX11_digest 66 = .ok (.i2l, 1) := by decide +kernel
theorem dX11_digest_67 : decode cX11_digest 67 = .ok (.ladd, 1) := by decide +kernel
theorem dX11_digest_68 : decode cX11_digest 68 = .ok (.lstore_n 1, 1) := by decide +kernel
theorem dX11_digest_69 : decode cX11_digest 69 = .ok (.iinc 4 1, 3) := by decide +kernel
theorem dX11_digest_72 : decode cX11_digest 72 = .ok (.goto (-25), 3) := by decide +kernel
theorem dX11_digest_75 : decode cX11_digest 75 = .ok (.iinc 3 1, 3) := by decide +kernel
theorem dX11_digest_78 : decode cX11_digest 78 = .ok (.goto (-45), 3) := by decide +kernel
theorem dX11_digest_81 : decode cX11_digest 81 = .ok (.iconst 0, 1) := by decide +kernel
theorem dX11_digest_82 : decode cX11_digest 82 = .ok (.istore_n 3, 1) := by decide +kernel
theorem dX11_digest_83 : decode cX11_digest 83 = .ok (.iload_n 3, 1) := by decide +kernel
theorem dX11_digest_84 : decode cX11_digest 84 = .ok (.aload_n 0, 1) := by decide +kernel
theorem dX11_digest_85 : decode cX11_digest 85 = .ok (.getfield 57, 3) := by decide +kernel
theorem dX11_digest_88 : decode cX11_digest 88 = .ok (.invokevirtual 272, 3) := by decide +kernel
theorem dX11_digest_91 : decode cX11_digest 91 = .ok (.if_icmp .ge 43, 3) := by decide +kernel
theorem dX11_digest_94 : decode cX11_digest 94 = .ok (.lload_n 1, 1) := by decide +kernel
theorem dX11_digest_95 : decode cX11_digest 95 = .ok (.ldc2_w 277, 3) := by decide +kernel
theorem dX11_digest_98 : decode cX11_digest 98 = .ok (.lmul, 1) := by decide +kernel
theorem dX11_digest_99 : decode cX11_digest 99 = .ok (.aload_n 0, 1) := by decide +kernel
theorem dX11_digest_100 : decode cX11_digest 100 = .ok (.getfield 57, 3) := by decide +kernel
theorem dX11_digest_103 : decode cX11_digest 103 = .ok (.getfield 160, 3) := by decide +kernel
theorem dX11_digest_106 : decode cX11_digest 106 = .ok (.iload_n 3, 1) := by decide +kernel
theorem dX11_digest_107 : decode cX11_digest 107 = .ok (.iaload, 1) := by decide +kernel
theorem dX11_digest_108 : decode cX11_digest 108 = .ok (.i2l, 1) := by decide +kernel
theorem dX11_digest_109 : decode cX11_digest 109 = .ok (.ladd, 1) := by decide +kernel
theorem dX11_digest_110 : decode cX11_digest 110 = .ok (.lstore_n 1, 1) := by decide +kernel
theorem dX11_digest_111 : decode cX11_digest 111 = .ok (.lload_n 1, 1) := by decide +kernel
theorem dX11_digest_112 : decode cX11_digest 112 = .ok (.ldc2_w 277, 3) := by decide +kernel
theorem dX11_digest_115 : decode cX11_digest 115 = .ok (.lmul, 1) := by decide +kernel
theorem dX11_digest_116 : decode cX11_digest 116 = .ok (.aload_n 0, 1) := by decide +kernel
theorem dX11_digest_117 : decode cX11_digest 117 = .ok (.getfield 43, 3) := by decide +kernel
theorem dX11_digest_120 : decode cX11_digest 120 = .ok (.getfield 216, 3) := by decide +kernel
theorem dX11_digest_123 : decode cX11_digest 123 = .ok (.iload_n 3, 1) := by decide +kernel
theorem dX11_digest_124 : decode cX11_digest 124 = .ok (.iaload, 1) := by decide +kernel
theorem dX11_digest_125 : decode cX11_digest 125 = .ok (.i2l, 1) := by decide +kernel
theorem dX11_digest_126 : decode cX11_digest 126 = .ok (.ladd, 1) := by decide +kernel
theorem dX11_digest_127 : decode cX11_digest 127 = .ok (.lstore_n 1, 1) := by decide +kernel
theorem dX11_digest_128 : decode cX11_digest 128 = .ok (.iinc 3 1, 3) := by decide +kernel
theorem dX11_digest_131 : decode cX11_digest 131 = .ok (.goto (-48), 3) := by decide +kernel
theorem dX11_digest_134 : decode cX11_digest 134 = .ok (.iconst 0, 1) := by decide +kernel
theorem dX11_digest_135 : decode cX11_digest 135 = .ok (.istore_n 3, 1) := by decide +kernel
theorem dX11_digest_136 : decode cX11_digest 136 = .ok (.iload_n 3, 1) := by decide +kernel
theorem dX11_digest_137 : decode cX11_digest 137 = .ok (.aload_n 0, 1) := by decide +kernel
theorem dX11_digest_138 : decode cX11_digest 138 = .ok (.getfield 33, 3) := by decide +kernel
theorem dX11_digest_141 : decode cX11_digest 141 = .ok (.getfield 119, 3) := by decide +kernel
theorem dX11_digest_144 : decode cX11_digest 144 = .ok (.if_icmp .ge 50, 3) := by decide +kernel
theorem dX11_digest_147 : decode cX11_digest 147 = .ok (.iconst 0, 1) := by decide +kernel
theorem dX11_digest_148 : decode cX11_digest 148 = .ok (.istore 4, 2) := by decide +kernel
theorem dX11_digest_150 : decode cX11_digest 150 = .ok (.iload 4, 2) := by decide +kernel
theorem dX11_digest_152 : decode cX11_digest 152 = .ok (.aload_n 0, 1) := by decide +kernel
theorem dX11_digest_153 : decode cX11_digest 153 = .ok (.getfield 57, 3) := by decide +kernel
theorem dX11_digest_156 : decode cX11_digest 156 = .ok (.invokevirtual 272, 3) := by decide +kernel
theorem dX11_digest_159 : decode cX11_digest 159 = .ok (.if_icmp .ge 29, 3) := by decide +kernel
theorem dX11_digest_162 : decode cX11_digest 162 = .ok (.lload_n 1, 1) := by decide +kernel
theorem dX11_digest_163 : decode cX11_digest 163 = .ok (.ldc2_w 277, 3) := by decide +kernel
theorem dX11_digest_166 : decode cX11_digest 166 = .ok (.lmul, 1) := by decide +kernel
theorem dX11_digest_167 : decode cX11_digest 167 = .ok (.aload_n 0, 1) := by decide +kernel
theorem dX11_digest_168 : decode cX11_digest 168 = .ok (.getfield 33, 3) := by decide +kernel
theorem dX11_digest_171 : decode cX11_digest 171 = .ok (.getfield 201, 3) := by decide +kernel
theorem dX11_digest_174 : decode cX11_digest 174 = .ok (.iload_n 3, 1) := by decide +kernel
theorem dX11_digest_175 : decode cX11_digest 175 = .ok (.aaload, 1) := by decide +kernel
theorem dX11_digest_176 : decode cX11_digest 176 = .ok (.iload 4, 2) := by decide +kernel
theorem dX11_digest_178 : decode cX11_digest 178 = .ok (.iaload, 1) := by decide +kernel
theorem dX11_digest_179 : decode cX11_digest 179 = .ok (.i2l, 1) := by decide +kernel
theorem dX11_digest_180 : decode cX11_digest 180 = .ok (.ladd, 1) := by decide +kernel
theorem dX11_digest_181 : decode cX11_digest 181 = .ok (.lstore_n 1, 1) := by decide +kernel
theorem dX11_digest_182 : decode cX11_digest 182 = .ok (.iinc 4 1, 3) := by decide +kernel
theorem dX11_digest_185 : decode cX11_digest 185 = .ok (.goto (-35), 3) := by decide +kernel
theorem dX11_digest_188 : decode cX11_digest 188 = .ok (.iinc 3 1, 3) := by decide +kernel
theorem dX11_digest_191 : decode cX11_digest 191 = .ok (.goto (-55), 3) := by decide +kernel
theorem dX11_digest_194 : decode cX11_digest 194 = .ok (.iconst 0, 1) := by decide +kernel
theorem dX11_digest_195 : decode cX11_digest 195 = .ok (.istore_n 3, 1) := by decide +kernel
theorem dX11_digest_196 : decode cX11_digest 196 = .ok (.iload_n 3, 1) := by decide +kernel
theorem dX11_digest_197 : decode cX11_digest 197 = .ok (.iconst 3, 1) := by decide +kernel
theorem dX11_digest_198 : decode cX11_digest 198 = .ok (.if_icmp .gt 22, 3) := by decide +kernel
theorem dX11_digest_201 : decode cX11_digest 201 = .ok (.lload_n 1, 1) := by decide +kernel
theorem dX11_digest_202 : decode cX11_digest 202 = .ok (.ldc2_w 277, 3) := by decide +kernel
theorem dX11_digest_205 : decode cX11_digest 205 = .ok (.lmul, 1) := by decide +kernel
theorem dX11_digest_206 : decode cX11_digest 206 = .ok (.aload_n 0, 1) := by decide +kernel
theorem dX11_digest_207 : decode cX11_digest 207 = .ok (.iload_n 3, 1) := by decide +kernel
theorem dX11_digest_208 : decode cX11_digest 208 = .ok (.invokevirtual 286, 3) := by decide +kernel
theorem dX11_digest_211 : decode cX11_digest 211 = .ok (.i2l, 1) := by decide +kernel
theorem dX11_digest_212 : decode cX11_digest 212 = .ok (.ladd, 1) := by decide +kernel
theorem dX11_digest_213 : decode cX11_digest 213 = .ok (.lstore_n 1, 1) := by decide +kernel
theorem dX11_digest_214 : decode cX11_digest 214 = .ok (.iinc 3 1, 3) := by decide +kernel
theorem dX11_digest_217 : decode cX11_digest 217 = .ok (.goto (-21), 3) := by decide +kernel
theorem dX11_digest_220 : decode cX11_digest 220 = .ok (.iconst 0, 1) := by decide +kernel
theorem dX11_digest_221 : decode cX11_digest 221 = .ok (.istore_n 3, 1) := by decide +kernel
theorem dX11_digest_222 : decode cX11_digest 222 = .ok (.iload_n 3, 1) := by decide +kernel
theorem dX11_digest_223 : decode cX11_digest 223 = .ok (.aload_n 0, 1) := by decide +kernel
theorem dX11_digest_224 : decode cX11_digest 224 = .ok (.getfield 26, 3) := by decide +kernel
theorem dX11_digest_227 : decode cX11_digest 227 = .ok (.getfield 125, 3) := by decide +kernel
theorem dX11_digest_230 : decode cX11_digest 230 = .ok (.if_icmp .ge 26, 3) := by decide +kernel
theorem dX11_digest_233 : decode cX11_digest 233 = .ok (.lload_n 1, 1) := by decide +kernel
theorem dX11_digest_234 : decode cX11_digest 234 = .ok (.ldc2_w 277, 3) := by decide +kernel
theorem dX11_digest_237 : decode cX11_digest 237 = .ok (.lmul, 1) := by decide +kernel
theorem dX11_digest_238 : decode cX11_digest 238 = .ok (.aload_n 0, 1) := by decide +kernel
theorem dX11_digest_239 : decode cX11_digest 239 = .ok (.getfield 26, 3) := by decide +kernel
theorem dX11_digest_242 : decode cX11_digest 242 = .ok (.getfield 182, 3) := by decide +kernel
theorem dX11_digest_245 : decode cX11_digest 245 = .ok (.iload_n 3, 1) := by decide +kernel
theorem dX11_digest_246 : decode cX11_digest 246 = .ok (.iaload, 1) := by decide +kernel
theorem dX11_digest_247 : decode cX11_digest 247 = .ok (.i2l, 1) := by decide +kernel
theorem dX11_digest_248 : decode cX11_digest 248 = .ok (.ladd, 1) := by decide +kernel
theorem dX11_digest_249 : decode cX11_digest 249 = .ok (.lstore_n 1, 1) := by decide +kernel
theorem dX11_digest_250 : decode cX11_digest 250 = .ok (.iinc 3 1, 3) := by decide +kernel
theorem dX11_digest_253 : decode cX11_digest 253 = .ok (.goto (-31), 3) := by decide +kernel
theorem dX11_digest_256 : decode cX11_digest 256 = .ok (.lload_n 1, 1) := by decide +kernel
theorem dX11_digest_257 : decode cX11_digest 257 = .ok (.lreturn, 1) := by decide +kernel
theorem dX11_requirePuzzle_0 : decode cX11_requirePuzzle 0 = .ok (.aload_n 0, 1) := by decide +kernel
theorem dX11_requirePuzzle_1 : decode cX11_requirePuzzle 1 = .ok (.getfield 57, 3) := by decide +kernel
theorem dX11_requirePuzzle_4 : decode cX11_requirePuzzle 4 = .ok (.invokevirtual 289, 3) := by decide +kernel
theorem dX11_requirePuzzle_7 : decode cX11_requirePuzzle 7 = .ok (.ifCond .ne 14, 3) := by decide +kernel
theorem dX11_requirePuzzle_10 : decode cX11_requirePuzzle 10 = .ok (.new 68, 3) := by decide +kernel
theorem dX11_requirePuzzle_13 : decode cX11_requirePuzzle 13 = .ok (.dup, 1) := by decide +kernel
theorem dX11_requirePuzzle_14 : decode cX11_requirePuzzle 14 = .ok (.ldc_w 293, 3) := by decide +kernel
theorem dX11_requirePuzzle_17 : decode cX11_requirePuzzle 17 = .ok (.invokespecial 72, 3) := by decide +kernel
theorem dX11_requirePuzzle_20 : decode cX11_requirePuzzle 20 = .ok (.athrow, 1) := by decide +kernel
theorem dX11_requirePuzzle_21 : decode cX11_requirePuzzle 21 = .ok (.return_, 1) := by decide +kernel
theorem dX11_requireRule_0 : decode cX11_requireRule 0 = .ok (.iload_n 1, 1) := by decide +kernel
theorem dX11_requireRule_1 : decode cX11_requireRule 1 = .ok (.ifCond .lt 14, 3) := by decide +kernel
theorem dX11_requireRule_4 : decode cX11_requireRule 4 = .ok (.iload_n 1, 1) := by decide +kernel
theorem dX11_requireRule_5 : decode cX11_requireRule 5 = .ok (.aload_n 0, 1) := by decide +kernel
theorem dX11_requireRule_6 : decode cX11_requireRule 6 = .ok (.getfield 57, 3) := by decide +kernel
theorem dX11_requireRule_9 : decode cX11_requireRule 9 = .ok (.getfield 106, 3) := by decide +kernel
theorem dX11_requireRule_12 : decode cX11_requireRule 12 = .ok (.if_icmp .lt 14, 3) := by decide +kernel
theorem dX11_requireRule_15 : decode cX11_requireRule 15 = .ok (.new 126, 3) := by decide +kernel
theorem dX11_requireRule_18 : decode cX11_requireRule 18 = .ok (.dup, 1) := by decide +kernel
theorem dX11_requireRule_19 : decode cX11_requireRule 19 = .ok (.ldc_w 295, 3) := by decide +kernel
theorem dX11_requireRule_22 : decode cX11_requireRule 22 = .ok (.invokespecial 130, 3) := by decide +kernel
theorem dX11_requireRule_25 : decode cX11_requireRule 25 = .ok (.athrow, 1) := by decide +kernel
theorem dX11_requireRule_26 : decode cX11_requireRule 26 = .ok (.return_, 1) := by decide +kernel
theorem dX11_requireCell_0 : decode cX11_requireCell 0 = .ok (.iload_n 1, 1) := by decide +kernel
theorem dX11_requireCell_1 : decode cX11_requireCell 1 = .ok (.ifCond .lt 14, 3) := by decide +kernel
theorem dX11_requireCell_4 : decode cX11_requireCell 4 = .ok (.iload_n 1, 1) := by decide +kernel
theorem dX11_requireCell_5 : decode cX11_requireCell 5 = .ok (.aload_n 0, 1) := by decide +kernel
theorem dX11_requireCell_6 : decode cX11_requireCell 6 = .ok (.getfield 57, 3) := by decide +kernel
theorem dX11_requireCell_9 : decode cX11_requireCell 9 = .ok (.invokevirtual 272, 3) := by decide +kernel
theorem dX11_requireCell_12 : decode cX11_requireCell 12 = .ok (.if_icmp .lt 14, 3) := by decide +kernel
theorem dX11_requireCell_15 : decode cX11_requireCell 15 = .ok (.new 126, 3) := by decide +kernel
theorem dX11_requireCell_18 : decode cX11_requireCell 18 = .ok (.dup, 1) := by decide +kernel
theorem dX11_requireCell_19 : decode cX11_requireCell 19 = .ok (.ldc_w 297, 3) := by decide +kernel
theorem dX11_requireCell_22 : decode cX11_requireCell 22 = .ok (.invokespecial 130, 3) := by decide +kernel
theorem dX11_requireCell_25 : decode cX11_requireCell 25 = .ok (.athrow, 1) := by decide +kernel
theorem dX11_requireCell_26 : decode cX11_requireCell 26 = .ok (.return_, 1) := by decide +kernel
theorem dX11_takeDraft_0 : decode cX11_takeDraft 0 = .ok (.aload_n 0, 1) := by decide +kernel
theorem dX11_takeDraft_1 : decode cX11_takeDraft 1 = .ok (.getfield 57, 3) := by decide +kernel
theorem dX11_takeDraft_4 : decode cX11_takeDraft 4 = .ok (.astore_n 1, 1) := by decide +kernel
theorem dX11_takeDraft_5 : decode cX11_takeDraft 5 = .ok (.aload_n 0, 1) := by decide +kernel
theorem dX11_takeDraft_6 : decode cX11_takeDraft 6 = .ok (.aload_n 0, 1) := by decide +kernel
theorem dX11_takeDraft_7 : decode cX11_takeDraft 7 = .ok (.getfield 61, 3) := by decide +kernel
theorem dX11_takeDraft_10 : decode cX11_takeDraft 10 = .ok (.putfield 57, 3) := by decide +kernel
theorem dX11_takeDraft_13 : decode cX11_takeDraft 13 = .ok (.aload_n 0, 1) := by decide +kernel
theorem dX11_takeDraft_14 : decode cX11_takeDraft 14 = .ok (.aload_n 1, 1) := by decide +kernel
theorem dX11_takeDraft_15 : decode cX11_takeDraft 15 = .ok (.putfield 61, 3) := by decide +kernel
theorem dX11_takeDraft_18 : decode cX11_takeDraft 18 = .ok (.aload_n 0, 1) := by decide +kernel
theorem dX11_takeDraft_19 : decode cX11_takeDraft 19 = .ok (.getfield 33, 3) := by decide +kernel
theorem dX11_takeDraft_22 : decode cX11_takeDraft 22 = .ok (.iconst 0, 1) := by decide +kernel
theorem dX11_takeDraft_23 : decode cX11_takeDraft 23 = .ok (.putfield 119, 3) := by decide +kernel
theorem dX11_takeDraft_26 : decode cX11_takeDraft 26 = .ok (.aload_n 0, 1) := by decide +kernel
theorem dX11_takeDraft_27 : decode cX11_takeDraft 27 = .ok (.getfield 43, 3) := by decide +kernel
theorem dX11_takeDraft_30 : decode cX11_takeDraft 30 = .ok (.aload_n 0, 1) := by decide +kernel
theorem dX11_takeDraft_31 : decode cX11_takeDraft 31 = .ok (.getfield 57, 3) := by decide +kernel
theorem dX11_takeDraft_34 : decode cX11_takeDraft 34 = .ok (.invokevirtual 209, 3) := by decide +kernel
theorem dX11_takeDraft_37 : decode cX11_takeDraft 37 = .ok (.return_, 1) := by decide +kernel
theorem dX12_init_0 : decode cX12_init 0 = .ok (.aload_n 0, 1) := by decide +kernel
theorem dX12_init_1 : decode cX12_init 1 = .ok (.invokespecial 1, 3) := by decide +kernel
theorem dX12_init_4 : decode cX12_init 4 = .ok (.aload_n 0, 1) := by decide +kernel
theorem dX12_init_5 : decode cX12_init 5 = .ok (.sipush 1600, 3) := by decide +kernel
theorem dX12_init_8 : decode cX12_init 8 = .ok (.newarray .int, 2) := by decide +kernel
theorem dX12_init_10 : decode cX12_init 10 = .ok (.putfield 9, 3) := by decide +kernel
theorem dX12_init_13 : decode cX12_init 13 = .ok (.aload_n 0, 1) := by decide +kernel
theorem dX12_init_14 : decode cX12_init 14 = .ok (.iconst (-1), 1) := by decide +kernel
theorem dX12_init_15 : decode cX12_init 15 = .ok (.putfield 13, 3) := by decide +kernel
theorem dX12_init_18 : decode cX12_init 18 = .ok (.aload_n 0, 1) := by decide +kernel
theorem dX12_init_19 : decode cX12_init 19 = .ok (.sipush 1601, 3) := by decide +kernel
theorem dX12_init_22 : decode cX12_init 22 = .ok (.newarray .int, 2) := by decide +kernel
theorem dX12_init_24 : decode cX12_init 24 = .ok (.putfield 17, 3) := by decide +kernel
theorem dX12_init_27 : decode cX12_init 27 = .ok (.aload_n 0, 1) := by decide +kernel
theorem dX12_init_28 : decode cX12_init 28 = .ok (.sipush 1601, 3) := by decide +kernel
theorem dX12_init_31 : decode cX12_init 31 = .ok (.newarray .int, 2) := by decide +kernel
theorem dX12_init_33 : decode cX12_init 33 = .ok (.putfield 20, 3) := by decide +kernel
theorem dX12_init_36 : decode cX12_init 36 = .ok (.aload_n 0, 1) := by decide +kernel
theorem dX12_init_37 : decode cX12_init 37 = .ok (.sipush 1601, 3) := by decide +kernel
theorem dX12_init_40 : decode cX12_init 40 = .ok (.newarray .int, 2) := by decide +kernel
theorem dX12_init_42 : decode cX12_init 42 = .ok (.putfield 23, 3) := by decide +kernel
theorem dX12_init_45 : decode cX12_init 45 = .ok (.aload_n 0, 1) := by decide +kernel
theorem dX12_init_46 : decode cX12_init 46 = .ok (.sipush 4000, 3) := by decide +kernel
theorem dX12_init_49 : decode cX12_init 49 = .ok (.newarray .int, 2) := by decide +kernel
theorem dX12_init_51 : decode cX12_init 51 = .ok (.putfield 26, 3) := by decide +kernel
theorem dX12_init_54 : decode cX12_init 54 = .ok (.aload_n 0, 1) := by decide +kernel
theorem dX12_init_55 : decode cX12_init 55 = .ok (.bipush 70, 2) := by decide +kernel
theorem dX12_init_57 : decode cX12_init 57 = .ok (.newarray .int, 2) := by decide +kernel
theorem dX12_init_59 : decode cX12_init 59 = .ok (.putfield 29, 3) := by decide +kernel
theorem dX12_init_62 : decode cX12_init 62 = .ok (.aload_n 0, 1) := by decide +kernel
theorem dX12_init_63 : decode cX12_init 63 = .ok (.bipush 70, 2) := by decide +kernel
theorem dX12_init_65 : decode cX12_init 65 = .ok (.newarray .int, 2) := by decide +kernel
theorem dX12_init_67 : decode cX12_init 67 = .ok (.putfield 32, 3) := by decide +kernel
theorem dX12_init_70 : decode cX12_init 70 = .ok (.aload_n 0, 1) := by decide +kernel
theorem dX12_init_71 : decode cX12_init 71 = .ok (.bipush 70, 2) := by decide +kernel
theorem dX12_init_73 : decode cX12_init 73 = .ok (.newarray .int, 2) := by decide +kernel
theorem dX12_init_75 : decode cX12_init 75 = .ok (.putfield 35, 3) := by decide +kernel
theorem dX12_init_78 : decode cX12_init 78 = .ok (.aload_n 0, 1) := by decide +kernel
theorem dX12_init_79 : decode cX12_init 79 = .ok (.bipush 70, 2) := by decide +kernel
theorem dX12_init_81 : decode cX12_init 81 = .ok (.newarray .int, 2) := by decide +kernel
theorem dX12_init_83 : decode cX12_init 83 = .ok (.putfield 38, 3) := by decide +kernel
theorem dX12_init_86 : decode cX12_init 86 = .ok (.aload_n 0, 1) := by decide +kernel
theorem dX12_init_87 : decode cX12_init 87 = .ok (.sipush 350, 3) := by decide +kernel
theorem dX12_init_90 : decode cX12_init 90 = .ok (.newarray .int, 2) := by decide +kernel
theorem dX12_init_92 : decode cX12_init 92 = .ok (.putfield 41, 3) := by decide +kernel
theorem dX12_init_95 : decode cX12_init 95 = .ok (.aload_n 0, 1) := by decide +kernel
theorem dX12_init_96 : decode cX12_init 96 = .ok (.bipush 25, 2) := by decide +kernel
theorem dX12_init_98 : decode cX12_init 98 = .ok (.newarray .int, 2) := by decide +kernel
theorem dX12_init_100 : decode cX12_init 100 = .ok (.putfield 44, 3) := by decide +kernel
theorem dX12_init_103 : decode cX12_init 103 = .ok (.aload_n 0, 1) := by decide +kernel
theorem dX12_init_104 : decode cX12_init 104 = .ok (.bipush 25, 2) := by decide +kernel
theorem dX12_init_106 : decode cX12_init 106 = .ok (.newarray .int, 2) := by decide +kernel
theorem dX12_init_108 : decode cX12_init 108 = .ok (.putfield 47, 3) := by decide +kernel
theorem dX12_init_111 : decode cX12_init 111 = .ok (.aload_n 0, 1) := by decide +kernel
theorem dX12_init_112 : decode cX12_init 112 = .ok (.bipush 25, 2) := by decide +kernel
theorem dX12_init_114 : decode cX12_init 114 = .ok (.newarray .int, 2) := by decide +kernel
theorem dX12_init_116 : decode cX12_init 116 = .ok (.putfield 50, 3) := by decide +kernel
theorem dX12_init_119 : decode cX12_init 119 = .ok (.aload_n 0, 1) := by decide +kernel
theorem dX12_init_120 : decode cX12_init 120 = .ok (.bipush 25, 2) := by decide +kernel
theorem dX12_init_122 : decode cX12_init 122 = .ok (.newarray .int, 2) := by decide +kernel
theorem dX12_init_124 : decode cX12_init 124 = .ok (.putfield 53, 3) := by decide +kernel
theorem dX12_init_127 : decode cX12_init 127 = .ok (.aload_n 0, 1) := by decide +kernel
theorem dX12_init_128 : decode cX12_init 128 = .ok (.sipush 750, 3) := by decide +kernel
theorem dX12_init_131 : decode cX12_init 131 = .ok (.newarray .int, 2) := by decide +kernel
theorem dX12_init_133 : decode cX12_init 133 = .ok (.putfield 56, 3) := by decide +kernel
theorem dX12_init_136 : decode cX12_init 136 = .ok (.aload_n 0, 1) := by decide +kernel
theorem dX12_init_137 : decode cX12_init 137 = .ok (.sipush 750, 3) := by decide +kernel
theorem dX12_init_140 : decode cX12_init 140 = .ok (.newarray .int, 2) := by decide +kernel
theorem dX12_init_142 : decode cX12_init 142 = .ok (.putfield 59, 3) := by decide +kernel
theorem dX12_init_145 : decode cX12_init 145 = .ok (.aload_n 0, 1) := by decide +kernel
theorem dX12_init_146 : decode cX12_init 146 = .ok (.bipush 25, 2) := by decide +kernel
theorem dX12_init_148 : decode cX12_init 148 = .ok (.newarray .int, 2) := by decide +kernel
theorem dX12_init_150 : decode cX12_init 150 = .ok (.putfield 62, 3) := by decide +kernel
theorem dX12_init_153 : decode cX12_init 153 = .ok (.aload_n 0, 1) := by decide +kernel
theorem dX12_init_154 : decode cX12_init 154 = .ok (.bipush 70, 2) := by decide +kernel
theorem dX12_init_156 : decode cX12_init 156 = .ok (.newarray .int, 2) := by decide +kernel
theorem dX12_init_158 : decode cX12_init 158 = .ok (.putfield 65, 3) := by decide +kernel
theorem dX12_init_161 : decode cX12_init 161 = .ok (.aload_n 0, 1) := by decide +kernel
theorem dX12_init_162 : decode cX12_init 162 = .ok (.bipush 70, 2) := by decide +kernel
theorem dX12_init_164 : decode cX12_init 164 = .ok (.newarray .int, 2) := by decide +kernel
theorem dX12_init_166 : decode cX12_init 166 = .ok (.putfield 68, 3) := by decide +kernel
theorem dX12_init_169 : decode cX12_init 169 = .ok (.aload_n 0, 1) := by decide +kernel
theorem dX12_init_170 : decode cX12_init 170 = .ok (.bipush 70, 2) := by decide +kernel
theorem dX12_init_172 : decode cX12_init 172 = .ok (.newarray .int, 2) := by decide +kernel
theorem dX12_init_174 : decode cX12_init 174 = .ok (.putfield 71, 3) := by decide +kernel
theorem dX12_init_177 : decode cX12_init 177 = .ok (.aload_n 0, 1) := by decide +kernel
theorem dX12_init_178 : decode cX12_init 178 = .ok (.bipush 70, 2) := by decide +kernel
theorem dX12_init_180 : decode cX12_init 180 = .ok (.newarray .int, 2) := by decide +kernel
theorem dX12_init_182 : decode cX12_init 182 = .ok (.putfield 74, 3) := by decide +kernel
theorem dX12_init_185 : decode cX12_init 185 = .ok (.aload_n 0, 1) := by decide +kernel
theorem dX12_init_186 : decode cX12_init 186 = .ok (.sipush 350, 3) := by decide +kernel
theorem dX12_init_189 : decode cX12_init 189 = .ok (.newarray .int, 2) := by decide +kernel
theorem dX12_init_191 : decode cX12_init 191 = .ok (.putfield 77, 3) := by decide +kernel
theorem dX12_init_194 : decode cX12_init 194 = .ok (.aload_n 0, 1) := by decide +kernel
theorem dX12_init_195 : decode cX12_init 195 = .ok (.iconst 4, 1) := by decide +kernel
theorem dX12_init_196 : decode cX12_init 196 = .ok (.newarray .int, 2) := by decide +kernel
theorem dX12_init_198 : decode cX12_init 198 = .ok (.putfield 80, 3) := by decide +kernel
theorem dX12_init_201 : decode cX12_init 201 = .ok (.return_, 1) := by decide +kernel
theorem dX12_thrown_0 : decode cX12_thrown 0 = .ok (.aload_n 0, 1) := by decide +kernel
theorem dX12_thrown_1 : decode cX12_thrown 1 = .ok (.getfield 83, 3) := by decide +kernel
theorem dX12_thrown_4 : decode cX12_thrown 4 = .ok (.ireturn, 1) := by decide +kernel
theorem dX12_no_0 : decode cX12_no 0 = .ok (.aload_n 0, 1) := by decide +kernel
theorem dX12_no_1 : decode cX12_no 1 = .ok (.iload_n 1, 1) := by decide +kernel
theorem dX12_no_2 : decode cX12_no 2 = .ok (.putfield 83, 3) := by decide +kernel
theorem dX12_no_5 : decode cX12_no 5 = .ok (.iconst 0, 1) := by decide +kernel
theorem dX12_no_6 : decode cX12_no 6 = .ok (.ireturn, 1) := by decide +kernel
theorem dX12_isIn_0 : decode cX12_isIn 0 = .ok (.iload_n 0, 1) := by decide +kernel
theorem dX12_isIn_1 : decode cX12_isIn 1 = .ok (.iload_n 1, 1) := by decide +kernel
theorem dX12_isIn_2 : decode cX12_isIn 2 = .ok (.if_icmp .lt 12, 3) := by decide +kernel
theorem dX12_isIn_5 : decode cX12_isIn 5 = .ok (.iload_n 0, 1) := by decide +kernel
theorem dX12_isIn_6 : decode cX12_isIn 6 = .ok (.iload_n 2, 1) := by decide +kernel
theorem dX12_isIn_7 : decode cX12_isIn 7 = .ok (.if_icmp .gt 7, 3) := by decide +kernel
theorem dX12_isIn_10 : decode cX12_isIn 10 = .ok (.iconst 1, 1) := by decide +kernel
theorem dX12_isIn_11 : decode cX12_isIn 11 = .ok (.goto 4, 3) := by decide +kernel
theorem dX12_isIn_14 : decode cX12_isIn 14 = .ok (.iconst 0, 1) := by decide +kernel
theorem dX12_isIn_15 : decode cX12_isIn 15 = .ok (.ireturn, 1) := by decide +kernel
theorem dX12_cells_0 : decode cX12_cells 0 = .ok (.aload_n 0, 1) := by decide +kernel
theorem dX12_cells_1 : decode cX12_cells 1 = .ok (.getfield 86, 3) := by decide +kernel
theorem dX12_cells_4 : decode cX12_cells 4 = .ok (.aload_n 0, 1) := by decide +kernel
theorem dX12_cells_5 : decode cX12_cells 5 = .ok (.getfield 89, 3) := by decide +kernel
theorem dX12_cells_8 : decode cX12_cells 8 = .ok (.imul, 1) := by decide +kernel
theorem dX12_cells_9 : decode cX12_cells 9 = .ok (.ireturn, 1) := by decide +kernel
theorem dX12_isCell_0 : decode cX12_isCell 0 = .ok (.iload_n 1, 1) := by decide +kernel
theorem dX12_isCell_1 : decode cX12_isCell 1 = .ok (.iconst 0, 1) := by decide +kernel
theorem dX12_isCell_2 : decode cX12_isCell 2 = .ok (.aload_n 0, 1) := by decide +kernel
theorem dX12_isCell_3 : decode cX12_isCell 3 = .ok (.invokevirtual 92, 3) := by decide +kernel
theorem dX12_isCell_6 : decode cX12_isCell 6 = .ok (.iconst 1, 1) := by decide +kernel
theorem dX12_isCell_7 : decode cX12_isCell 7 = .ok (.isub, 1) := by decide +kernel
theorem dX12_isCell_8 : decode cX12_isCell 8 = .ok (.invokestatic 96, 3) := by decide +kernel
theorem dX12_isCell_11 : decode cX12_isCell 11 = .ok (.ireturn, 1) := by decide +kernel
theorem dX12_isRule_0 : decode cX12_isRule 0 = .ok (.iload_n 1, 1) := by decide +kernel
theorem dX12_isRule_1 : decode cX12_isRule 1 = .ok (.iconst 0, 1) := by decide +kernel
theorem dX12_isRule_2 : decode cX12_isRule 2 = .ok (.aload_n 0, 1) := by decide +kernel
theorem dX12_isRule_3 : decode cX12_isRule 3 = .ok (.getfield 100, 3) := by decide +kernel
theorem dX12_isRule_6 : decode cX12_isRule 6 = .ok (.iconst 1, 1) := by decide +kernel
theorem dX12_isRule_7 : decode cX12_isRule 7 = .ok (.isub, 1) := by decide +kernel
theorem dX12_isRule_8 : decode cX12_isRule 8 = .ok (.invokestatic 96, 3) := by decide +kernel
theorem dX12_isRule_11 : decode cX12_isRule 11 = .ok (.ireturn, 1) := by decide +kernel
theorem dX12_feed_0 : decode cX12_feed 0 = .ok (.aload_n 0, 1) := by decide +kernel
theorem dX12_feed_1 : decode cX12_feed 1 = .ok (.iconst 0, 1) := by decide +kernel
theorem dX12_feed_2 : decode cX12_feed 2 = .ok (.putfield 83, 3) := by decide +kernel
theorem dX12_feed_5 : decode cX12_feed 5 = .ok (.aload_n 0, 1) := by decide +kernel
theorem dX12_feed_6 : decode cX12_feed 6 = .ok (.getfield 103, 3) := by decide +kernel
theorem dX12_feed_9 : decode cX12_feed 9 = .ok (.bipush 20, 2) := by decide +kernel
theorem dX12_feed_11 : decode cX12_feed 11 = .ok (.iadd, 1) := by decide +kernel
theorem dX12_feed_12 : decode cX12_feed 12 = .ok (.sipush 1600, 3) := by decide +kernel
theorem dX12_feed_15 : decode cX12_feed 15 = .ok (.if_icmp .le 9, 3) := by decide +kernel
theorem dX12_feed_18 : decode cX12_feed 18 = .ok (.aload_n 0, 1) := by decide +kernel
theorem dX12_feed_19 : decode cX12_feed 19 = .ok (.iconst 1, 1) := by decide +kernel
theorem dX12_feed_20 : decode cX12_feed 20 = .ok (.invokevirtual 106, 3) := by decide +kernel
theorem dX12_feed_23 : decode cX12_feed 23 = .ok (.ireturn, 1) := by decide +kernel
theorem dX12_feed_24 : decode cX12_feed 24 = .ok (.iconst 5, 1) := by decide +kernel
theorem dX12_feed_25 : decode cX12_feed 25 = .ok (.newarray .int, 2) := by decide +kernel
theorem dX12_feed_27 : decode cX12_feed 27 = .ok (.dup, 1) := by decide +kernel
theorem dX12_feed_28 : decode cX12_feed 28 = .ok (.iconst 0, 1) := by decide +kernel
theorem dX12_feed_29 : decode cX12_feed 29 = .ok (.iload_n 1, 1) := by decide +kernel
theorem dX12_feed_30 : decode cX12_feed 30 = .ok (.iastore, 1) := by decide +kernel
theorem dX12_feed_31 : decode cX12_feed 31 = .ok (.dup, 1) := by decide +kernel
theorem dX12_feed_32 : decode cX12_feed 32 = .ok (.iconst 1, 1) := by decide +kernel
theorem dX12_feed_33 : decode cX12_feed 33 = .ok (.iload_n 2, 1) := by decide +kernel
theorem dX12_feed_34 : decode cX12_feed 34 = .ok (.iastore, 1) := by decide +kernel
theorem dX12_feed_35 : decode cX12_feed 35 = .ok (.dup, 1) := by decide +kernel
theorem dX12_feed_36 : decode cX12_feed 36 = .ok (.iconst 2, 1) := by decide +kernel
theorem dX12_feed_37 : decode cX12_feed 37 = .ok (.iload_n 3, 1) := by decide +kernel
theorem dX12_feed_38 : decode cX12_feed 38 = .ok (.iastore, 1) := by decide +kernel
theorem dX12_feed_39 : decode cX12_feed 39 = .ok (.dup, 1) := by decide +kernel
theorem dX12_feed_40 : decode cX12_feed 40 = .ok (.iconst 3, 1) := by decide +kernel
theorem dX12_feed_41 : decode cX12_feed 41 = .ok (.iload 4, 2) := by decide +kernel
theorem dX12_feed_43 : decode cX12_feed 43 = .ok (.iastore, 1) := by decide +kernel
theorem dX12_feed_44 : decode cX12_feed 44 = .ok (.dup, 1) := by decide +kernel
theorem dX12_feed_45 : decode cX12_feed 45 = .ok (.iconst 4, 1) := by decide +kernel
theorem dX12_feed_46 : decode cX12_feed 46 = .ok (.iload 5, 2) := by decide +kernel
theorem dX12_feed_48 : decode cX12_feed 48 = .ok (.iastore, 1) := by decide +kernel
theorem dX12_feed_49 : decode cX12_feed 49 = .ok (.astore 6, 2) := by decide +kernel
theorem dX12_feed_51 : decode cX12_feed 51 = .ok (.aload 6, 2) := by decide +kernel
theorem dX12_feed_53 : decode cX12_feed 53 = .ok (.astore 7, 2) := by decide +kernel
theorem dX12_feed_55 : decode cX12_feed 55 = .ok (.aload 7, 2) := by decide +kernel
theorem dX12_feed_57 : decode cX12_feed 57 = .ok (.arraylength, 1) := by decide +kernel
theorem dX12_feed_58 : decode cX12_feed 58 = .ok (.istore 8, 2) := by decide +kernel
theorem dX12_feed_60 : decode cX12_feed 60 = .ok (.iconst 0, 1) := by decide +kernel
theorem dX12_feed_61 : decode cX12_feed 61 = .ok (.istore 9, 2) := by decide +kernel
theorem dX12_feed_63 : decode cX12_feed 63 = .ok (.iload 9, 2) := by decide +kernel
theorem dX12_feed_65 : decode cX12_feed 65 = .ok (.iload 8, 2) := by decide +kernel
theorem dX12_feed_67 : decode cX12_feed 67 = .ok (.if_icmp .ge 61, 3) := by decide +kernel
theorem dX12_feed_70 : decode cX12_feed 70 = .ok (.aload 7, 2) := by decide +kernel
theorem dX12_feed_72 : decode cX12_feed 72 = .ok (.iload 9, 2) := by decide +kernel
theorem dX12_feed_74 : decode cX12_feed 74 = .ok (.iaload, 1) := by decide +kernel
theorem dX12_feed_75 : decode cX12_feed 75 = .ok (.istore 10, 2) := by decide +kernel
theorem dX12_feed_77 : decode cX12_feed 77 = .ok (.iconst 3, 1) := by decide +kernel
theorem dX12_feed_78 : decode cX12_feed 78 = .ok (.istore 11, 2) := by decide +kernel
theorem dX12_feed_80 : decode cX12_feed 80 = .ok (.iload 11, 2) := by decide +kernel
theorem dX12_feed_82 : decode cX12_feed 82 = .ok (.ifCond .lt 40, 3) := by decide +kernel
theorem dX12_feed_85 : decode cX12_feed 85 = .ok (.aload_n 0, 1) := by decide +kernel
theorem dX12_feed_86 : decode cX12_feed 86 = .ok (.getfield 9, 3) := by decide +kernel
theorem dX12_feed_89 : decode cX12_feed 89 = .ok (.aload_n 0, 1) := by decide +kernel
theorem dX12_feed_90 : decode cX12_feed 90 = .ok (.getfield 103, 3) := by decide +kernel
theorem dX12_feed_93 : decode cX12_feed 93 = .ok (.iload 10, 2) := by decide +kernel
theorem dX12_feed_95 : decode cX12_feed 95 = .ok (.bipush 8, 2) := by decide +kernel
theorem dX12_feed_97 : decode cX12_feed 97 = .ok (.iload 11, 2) := by decide +kernel
theorem dX12_feed_99 : decode cX12_feed 99 = .ok (.imul, 1) := by decide +kernel
theorem dX12_feed_100 : decode cX12_feed 100 = .ok (.ishr, 1) := by decide +kernel
theorem dX12_feed_101 : decode cX12_feed 101 = .ok (.sipush 255, 3) := by decide +kernel
theorem dX12_feed_104 : decode cX12_feed 104 = .ok (.iand, 1) := by decide +kernel
theorem dX12_feed_105 : decode cX12_feed 105 = .ok (.iastore, 1) := by decide +kernel
theorem dX12_feed_106 : decode cX12_feed 106 = .ok (.aload_n 0, 1) := by decide +kernel
theorem dX12_feed_107 : decode cX12_feed 107 = .ok (.dup, 1) := by decide +kernel
theorem dX12_feed_108 : decode cX12_feed 108 = .ok (.getfield 103, 3) := by decide +kernel
theorem dX12_feed_111 : decode cX12_feed 111 = .ok (.iconst 1, 1) := by decide +kernel
theorem dX12_feed_112 : decode cX12_feed 112 = .ok (.iadd, 1) := by decide +kernel
theorem dX12_feed_113 : decode cX12_feed 113 = .ok (.putfield 103, 3) := by decide +kernel
theorem dX12_feed_116 : decode cX12_feed 116 = .ok (.iinc 11 (-1), 3) := by decide +kernel
theorem dX12_feed_119 : decode cX12_feed 119 = .ok (.goto (-39), 3) := by decide +kernel
theorem dX12_feed_122 : decode cX12_feed 122 = .ok (.iinc 9 1, 3) := by decide +kernel
theorem dX12_feed_125 : decode cX12_feed 125 = .ok (.goto (-62), 3) := by decide +kernel
theorem dX12_feed_128 : decode cX12_feed 128 = .ok (.aload_n 0, 1) := by decide +kernel
theorem dX12_feed_129 : decode cX12_feed 129 = .ok (.getfield 103, 3) := by decide +kernel
theorem dX12_feed_132 : decode cX12_feed 132 = .ok (.ireturn, 1) := by decide +kernel
theorem dX12_trim_0 : decode cX12_trim 0 = .ok (.aload_n 0, 1) := by decide +kernel
theorem dX12_trim_1 : decode cX12_trim 1 = .ok (.iconst 0, 1) := by decide +kernel
theorem dX12_trim_2 : decode cX12_trim 2 = .ok (.putfield 83, 3) := by decide +kernel
theorem dX12_trim_5 : decode cX12_trim 5 = .ok (.iload_n 1, 1) := by decide +kernel
theorem dX12_trim_6 : decode cX12_trim 6 = .ok (.iconst 0, 1) := by decide +kernel
theorem dX12_trim_7 : decode cX12_trim 7 = .ok (.aload_n 0, 1) := by decide +kernel
theorem dX12_trim_8 : decode cX12_trim 8 = .ok (.getfield 103, 3) := by decide +kernel
theorem dX12_trim_11 : decode cX12_trim 11 = .ok (.invokestatic 96, 3) := by decide +kernel
theorem dX12_trim_14 : decode cX12_trim 14 = .ok (.ifCond .ne 9, 3) := by decide +kernel
theorem dX12_trim_17 : decode cX12_trim 17 = .ok (.aload_n 0, 1) := by decide +kernel
theorem dX12_trim_18 : decode cX12_trim 18 = .ok (.iconst 1, 1) := by decide +kernel
theorem dX12_trim_19 : decode cX12_trim 19 = .ok (.invokevirtual 106, 3) := by decide +kernel
theorem dX12_trim_22 : decode cX12_trim 22 = .ok (.ireturn, 1) := by decide +kernel
theorem dX12_trim_23 : decode cX12_trim 23 = .ok (.aload_n 0, 1) := by decide +kernel
theorem dX12_trim_24 : decode cX12_trim 24 = .ok (.iload_n 1, 1) := by decide +kernel
theorem dX12_trim_25 : decode cX12_trim 25 = .ok (.putfield 103, 3) := by decide +kernel
theorem dX12_trim_28 : decode cX12_trim 28 = .ok (.iload_n 1, 1) := by decide +kernel
theorem dX12_trim_29 : decode cX12_trim 29 = .ok (.ireturn, 1) := by decide +kernel
theorem dX12_byteAtTape_0 : decode cX12_byteAtTape 0 = .ok (.iload_n 1, 1) := by decide +kernel
theorem dX12_byteAtTape_1 : decode cX12_byteAtTape 1 = .ok (.aload_n 0, 1) := by decide +kernel
theorem dX12_byteAtTape_2 : decode cX12_byteAtTape 2 = .ok (.getfield 103, 3) := by decide +kernel
theorem dX12_byteAtTape_5 : decode cX12_byteAtTape 5 = .ok (.if_icmp .ge 12, 3) := by decide +kernel
theorem dX12_byteAtTape_8 : decode cX12_byteAtTape 8 = .ok (.aload_n 0, 1) := by decide +kernel
theorem dX12_byteAtTape_9 : decode cX12_byteAtTape 9 = .ok (.getfield 9, 3) := by decide +kernel
theorem dX12_byteAtTape_12 : decode cX12_byteAtTape 12 = .ok (.iload_n 1, 1) := by decide +kernel
theorem dX12_byteAtTape_13 : decode cX12_byteAtTape 13 = .ok (.iaload, 1) := by decide +kernel
theorem dX12_byteAtTape_14 : decode cX12_byteAtTape 14 = .ok (.goto 4, 3) := by decide +kernel
theorem dX12_byteAtTape_17 : decode cX12_byteAtTape 17 = .ok (.iconst (-1), 1) := by decide +kernel
theorem dX12_byteAtTape_18 : decode cX12_byteAtTape 18 = .ok (.ireturn, 1) := by decide +kernel
theorem dX12_isLetter_0 : decode cX12_isLetter 0 = .ok (.aload_n 0, 1) := by decide +kernel
theorem dX12_isLetter_1 : decode cX12_isLetter 1 = .ok (.iload_n 1, 1) := by decide +kernel
theorem dX12_isLetter_2 : decode cX12_isLetter 2 = .ok (.invokevirtual 110, 3) := by decide +kernel
theorem dX12_isLetter_5 : decode cX12_isLetter 5 = .ok (.bipush 97, 2) := by decide +kernel
theorem dX12_isLetter_7 : decode cX12_isLetter 7 = .ok (.bipush 122, 2) := by decide +kernel
theorem dX12_isLetter_9 : decode cX12_isLetter 9 = .ok (.invokestatic 96, 3) := by decide +kernel
theorem dX12_isLetter_12 : decode cX12_isLetter 12 = .ok (.ireturn, 1) := by decide +kernel
theorem dX12_isDigit_0 : decode cX12_isDigit 0 = .ok (.aload_n 0, 1) := by decide +kernel
theorem dX12_isDigit_1 : decode cX12_isDigit 1 = .ok (.iload_n 1, 1) := by decide +kernel
theorem dX12_isDigit_2 : decode cX12_isDigit 2 = .ok (.invokevirtual 110, 3) := by decide +kernel
theorem dX12_isDigit_5 : decode cX12_isDigit 5 = .ok (.bipush 48, 2) := by decide +kernel
theorem dX12_isDigit_7 : decode cX12_isDigit 7 = .ok (.bipush 57, 2) := by decide +kernel
theorem dX12_isDigit_9 : decode cX12_isDigit 9 = .ok (.invokestatic 96, 3) := by decide +kernel
theorem dX12_isDigit_12 : decode cX12_isDigit 12 = .ok (.ireturn, 1) := by decide +kernel
theorem dX12_scan_0 : decode cX12_scan 0 = .ok (.iconst 0, 1) := by decide +kernel
theorem dX12_scan_1 : decode cX12_scan 1 = .ok (.istore_n 1, 1) := by decide +kernel
theorem dX12_scan_2 : decode cX12_scan 2 = .ok (.iconst 0, 1) := by decide +kernel
theorem dX12_scan_3 : decode cX12_scan 3 = .ok (.istore_n 2, 1) := by decide +kernel
theorem dX12_scan_4 : decode cX12_scan 4 = .ok (.iconst 1, 1) := by decide +kernel
theorem dX12_scan_5 : decode cX12_scan 5 = .ok (.istore_n 3, 1) := by decide +kernel
theorem dX12_scan_6 : decode cX12_scan 6 = .ok (.iload_n 3, 1) := by decide +kernel
theorem dX12_scan_7 : decode cX12_scan 7 = .ok (.ifCond .eq 217, 3) := by decide +kernel
theorem dX12_scan_10 : decode cX12_scan 10 = .ok (.aload_n 0, 1) := by decide +kernel
theorem dX12_scan_11 : decode cX12_scan 11 = .ok (.iload_n 2, 1) := by decide +kernel
theorem dX12_scan_12 : decode cX12_scan 12 = .ok (.invokevirtual 110, 3) := by decide +kernel
theorem dX12_scan_15 : decode cX12_scan 15 = .ok (.bipush 32, 2) := by decide +kernel
theorem dX12_scan_17 : decode cX12_scan 17 = .ok (.if_icmp .eq 13, 3) := by decide +kernel
theorem dX12_scan_20 : decode cX12_scan 20 = .ok (.aload_n 0, 1) := by decide +kernel
theorem dX12_scan_21 : decode cX12_scan 21 = .ok (.iload_n 2, 1) := by decide +kernel
theorem dX12_scan_22 : decode cX12_scan 22 = .ok (.invokevirtual 110, 3) := by decide +kernel
theorem dX12_scan_25 : decode cX12_scan 25 = .ok (.bipush 10, 2) := by decide +kernel
theorem dX12_scan_27 : decode cX12_scan 27 = .ok (.if_icmp .ne 9, 3) := by decide +kernel
theorem dX12_scan_30 : decode cX12_scan 30 = .ok (.iinc 2 1, 3) := by decide +kernel
theorem dX12_scan_33 : decode cX12_scan 33 = .ok (.goto (-23), 3) := by decide +kernel
theorem dX12_scan_36 : decode cX12_scan 36 = .ok (.iload_n 2, 1) := by decide +kernel
theorem dX12_scan_37 : decode cX12_scan 37 = .ok (.istore 4, 2) := by decide +kernel
theorem dX12_scan_39 : decode cX12_scan 39 = .ok (.iconst 0, 1) := by decide +kernel
theorem dX12_scan_40 : decode cX12_scan 40 = .ok (.istore 5, 2) := by decide +kernel
theorem dX12_scan_42 : decode cX12_scan 42 = .ok (.aload_n 0, 1) := by decide +kernel
theorem dX12_scan_43 : decode cX12_scan 43 = .ok (.iload_n 2, 1) := by decide +kernel
theorem dX12_scan_44 : decode cX12_scan 44 = .ok (.invokevirtual 113, 3) := by decide +kernel
theorem dX12_scan_47 : decode cX12_scan 47 = .ok (.ifCond .eq 22, 3) := by decide +kernel
theorem dX12_scan_50 : decode cX12_scan 50 = .ok (.aload_n 0, 1) := by decide +kernel
theorem dX12_scan_51 : decode cX12_scan 51 = .ok (.iload_n 2, 1) := by decide +kernel
theorem dX12_scan_52 : decode cX12_scan 52 = .ok (.iconst 1, 1) := by decide +kernel
theorem dX12_scan_53 : decode cX12_scan 53 = .ok (.iadd, 1) := by decide +kernel
theorem dX12_scan_54 : decode cX12_scan 54 = .ok (.invokevirtual 117, 3) := by decide +kernel
theorem dX12_scan_57 : decode cX12_scan 57 = .ok (.ifCond .eq 12, 3) := by decide +kernel
theorem dX12_scan_60 : decode cX12_scan 60 = .ok (.iconst 1, 1) := by decide +kernel
theorem dX12_scan_61 : decode cX12_scan 61 = .ok (.istore 5, 2) := by decide +kernel
theorem dX12_scan_63 : decode cX12_scan 63 = .ok (.iinc 4 2, 3) := by decide +kernel
theorem dX12_scan_66 : decode cX12_scan 66 = .ok (.goto 115, 3) := by decide +kernel
theorem dX12_scan_69 : decode cX12_scan 69 = .ok (.aload_n 0, 1) := by decide +kernel
theorem dX12_scan_70 : decode cX12_scan 70 = .ok (.iload_n 2, 1) := by decide +kernel
theorem dX12_scan_71 : decode cX12_scan 71 = .ok (.invokevirtual 113, 3) := by decide +kernel
theorem dX12_scan_74 : decode cX12_scan 74 = .ok (.ifCond .eq 37, 3) := by decide +kernel
theorem dX12_scan_77 : decode cX12_scan 77 = .ok (.aload_n 0, 1) := by decide +kernel
theorem dX12_scan_78 : decode cX12_scan 78 = .ok (.iload 4, 2) := by decide +kernel
theorem dX12_scan_80 : decode cX12_scan 80 = .ok (.invokevirtual 113, 3) := by decide +kernel
theorem dX12_scan_83 : decode cX12_scan 83 = .ok (.ifCond .eq 9, 3) := by decide +kernel
theorem dX12_scan_86 : decode cX12_scan 86 = .ok (.iinc 4 1, 3) := by decide +kernel
theorem dX12_scan_89 : decode cX12_scan 89 = .ok (.goto (-12), 3) := by decide +kernel
theorem dX12_scan_92 : decode cX12_scan 92 = .ok (.iload 4, 2) := by decide +kernel
theorem dX12_scan_94 : decode cX12_scan 94 = .ok (.iload_n 2, 1) := by decide +kernel
theorem dX12_scan_95 : decode cX12_scan 95 = .ok (.isub, 1) := by decide +kernel
theorem dX12_scan_96 : decode cX12_scan 96 = .ok (.bipush 8, 2) := by decide +kernel
theorem dX12_scan_98 : decode cX12_scan 98 = .ok (.if_icmp .gt 7, 3) := by decide +kernel
theorem dX12_scan_101 : decode cX12_scan 101 = .ok (.iconst 2, 1) := by decide +kernel
theorem dX12_scan_102 : decode cX12_scan 102 = .ok (.goto 4, 3) := by decide +kernel
theorem dX12_scan_105 : decode cX12_scan 105 = .ok (.iconst 5, 1) := by decide +kernel
theorem dX12_scan_106 : decode cX12_scan 106 = .ok (.istore 5, 2) := by decide +kernel
theorem dX12_scan_108 : decode cX12_scan 108 = .ok (.goto 73, 3) := by decide +kernel
theorem dX12_scan_111 : decode cX12_scan 111 = .ok (.aload_n 0, 1) := by decide +kernel
theorem dX12_scan_112 : decode cX12_scan 112 = .ok (.iload_n 2, 1) := by decide +kernel
theorem dX12_scan_113 : decode cX12_scan 113 = .ok (.invokevirtual 117, 3) := by decide +kernel
theorem dX12_scan_116 : decode cX12_scan 116 = .ok (.ifCond .eq 36, 3) := by decide +kernel
theorem dX12_scan_119 : decode cX12_scan 119 = .ok (.aload_n 0, 1) := by decide +kernel
theorem dX12_scan_120 : decode cX12_scan 120 = .ok (.iload 4, 2) := by decide +kernel
theorem dX12_scan_122 : decode cX12_scan 122 = .ok (.invokevirtual 117, 3) := by decide +kernel
theorem dX12_scan_125 : decode cX12_scan 125 = .ok (.ifCond .eq 9, 3) := by decide +kernel
theorem dX12_scan_128 : decode cX12_scan 128 = .ok (.iinc 4 1, 3) := by decide +kernel
theorem dX12_scan_131 : decode cX12_scan 131 = .ok (.goto (-12), 3) := by decide +kernel
theorem dX12_scan_134 : decode cX12_scan 134 = .ok (.iload 4, 2) := by decide +kernel
theorem dX12_scan_136 : decode cX12_scan 136 = .ok (.iload_n 2, 1) := by decide +kernel
theorem dX12_scan_137 : decode cX12_scan 137 = .ok (.isub, 1) := by decide +kernel
theorem dX12_scan_138 : decode cX12_scan 138 = .ok (.iconst 4, 1) := by decide +kernel
theorem dX12_scan_139 : decode cX12_scan 139 = .ok (.if_icmp .gt 7, 3) := by decide +kernel
theorem dX12_scan_142 : decode cX12_scan 142 = .ok (.iconst 3, 1) := by decide +kernel
theorem dX12_scan_143 : decode cX12_scan 143 = .ok (.goto 4, 3) := by decide +kernel
theorem dX12_scan_146 : decode cX12_scan 146 = .ok (.iconst 5, 1) := by decide +kernel
theorem dX12_scan_147 : decode cX12_scan 147 = .ok (.istore 5, 2) := by decide +kernel
theorem dX12_scan_149 : decode cX12_scan 149 = .ok (.goto 32, 3) := by decide +kernel
theorem dX12_scan_152 : decode cX12_scan 152 = .ok (.iload_n 2, 1) := by decide +kernel
theorem dX12_scan_153 : decode cX12_scan 153 = .ok (.aload_n 0, 1) := by decide +kernel
theorem dX12_scan_154 : decode cX12_scan 154 = .ok (.getfield 103, 3) := by decide +kernel
theorem dX12_scan_157 : decode cX12_scan 157 = .ok (.if_icmp .ge 24, 3) := by decide +kernel
theorem dX12_scan_160 : decode cX12_scan 160 = .ok (.iinc 4 1, 3) := by decide +kernel
theorem dX12_scan_163 : decode cX12_scan 163 = .ok (.aload_n 0, 1) := by decide +kernel
theorem dX12_scan_164 : decode cX12_scan 164 = .ok (.getfield 9, 3) := by decide +kernel
theorem dX12_scan_167 : decode cX12_scan 167 = .ok (.iload_n 2, 1) := by decide +kernel
theorem dX12_scan_168 : decode cX12_scan 168 = .ok (.iaload, 1) := by decide +kernel
theorem dX12_scan_169 : decode cX12_scan 169 = .ok (.bipush 59, 2) := by decide +kernel
theorem dX12_scan_171 : decode cX12_scan 171 = .ok (.if_icmp .ne 7, 3) := by decide +kernel
theorem dX12_scan_174 : decode cX12_scan 174 = .ok (.iconst 4, 1) := by decide +kernel
theorem dX12_scan_175 : decode cX12_scan 175 = .ok (.goto 4, 3) := by decide +kernel
theorem dX12_scan_178 : decode cX12_scan 178 = .ok (.iconst 5, 1) := by decide +kernel
theorem dX12_scan_179 : decode cX12_scan 179 = .ok (.istore 5, 2) := by decide +kernel
theorem dX12_scan_181 : decode cX12_scan 181 = .ok (.aload_n 0, 1) := by decide +kernel
theorem dX12_scan_182 : decode cX12_scan 182 = .ok (.getfield 17, 3) := by decide +kernel
theorem dX12_scan_185 : decode cX12_scan 185 = .ok (.iload_n 1, 1) := by decide +kernel
theorem dX12_scan_186 : decode cX12_scan 186 = .ok (.iload 5, 2) := by decide +kernel
theorem dX12_scan_188 : decode cX12_scan 188 = .ok (.iastore, 1) := by decide +kernel
theorem dX12_scan_189 : decode cX12_scan 189 = .ok (.aload_n 0, 1) := by decide +kernel
theorem dX12_scan_190 : decode cX12_scan 190 = .ok (.getfield 20, 3) := by decide +kernel
theorem dX12_scan_193 : decode cX12_scan 193 = .ok (.iload_n 1, 1) := by decide +kernel
theorem dX12_scan_194 : decode cX12_scan 194 = .ok (.iload_n 2, 1) := by decide +kernel
theorem dX12_scan_195 : decode cX12_scan 195 = .ok (.iastore, 1) := by decide +kernel
theorem dX12_scan_196 : decode cX12_scan 196 = .ok (.aload_n 0, 1) := by decide +kernel
theorem dX12_scan_197 : decode cX12_scan 197 = .ok (.getfield 23, 3) := by decide +kernel
theorem dX12_scan_200 : decode cX12_scan 200 = .ok (.iload_n 1, 1) := by decide +kernel
theorem dX12_scan_201 : decode cX12_scan 201 = .ok (.iload 4, 2) := by decide +kernel
theorem dX12_scan_203 : decode cX12_scan 203 = .ok (.iastore, 1) := by decide +kernel
theorem dX12_scan_204 : decode cX12_scan 204 = .ok (.iinc 1 1, 3) := by decide +kernel
theorem dX12_scan_207 : decode cX12_scan 207 = .ok (.iload 4, 2) := by decide +kernel
theorem dX12_scan_209 : decode cX12_scan 209 = .ok (.istore_n 2, 1) := by decide +kernel
theorem dX12_scan_210 : decode cX12_scan 210 = .ok (.iload 5, 2) := by decide +kernel
theorem dX12_scan_212 : decode cX12_scan 212 = .ok (.ifCond .eq 7, 3) := by decide +kernel
theorem dX12_scan_215 : decode cX12_scan 215 = .ok (.iconst 1, 1) := by decide +kernel
theorem dX12_scan_216 : decode cX12_scan 216 = .ok (.goto 4, 3) := by decide +kernel
theorem dX12_scan_219 : decode cX12_scan 219 = .ok (.iconst 0, 1) := by decide +kernel
theorem dX12_scan_220 : decode cX12_scan 220 = .ok (.istore_n 3, 1) := by decide +kernel
theorem dX12_scan_221 : decode cX12_scan 221 = .ok (.goto (-215), 3) := by decide +kernel
theorem dX12_scan_224 : decode cX12_scan 224 = .ok (.return_, 1) := by decide +kernel
theorem dX12_is_0 : decode cX12_is 0 = .ok (.aload_n 0, 1) := by decide +kernel
theorem dX12_is_1 : decode cX12_is 1 = .ok (.getfield 17, 3) := by decide +kernel
theorem dX12_is_4 : decode cX12_is 4 = .ok (.iload_n 1, 1) := by decide +kernel
theorem dX12_is_5 : decode cX12_is 5 = .ok (.iaload, 1) := by decide +kernel
theorem dX12_is_6 : decode cX12_is 6 = .ok (.iconst 2, 1) := by decide +kernel
theorem dX12_is_7 : decode cX12_is 7 = .ok (.if_icmp .ne 27, 3) := by decide +kernel
theorem dX12_is_10 : decode cX12_is 10 = .ok (.aload_n 0, 1) := by decide +kernel
theorem dX12_is_11 : decode cX12_is 11 = .ok (.getfield 23, 3) := by decide +kernel
theorem dX12_is_14 : decode cX12_is 14 = .ok (.iload_n 1, 1) := by decide +kernel
theorem dX12_is_15 : decode cX12_is 15 = .ok (.iaload, 1) := by decide +kernel
theorem dX12_is_16 : decode cX12_is 16 = .ok (.aload_n 0, 1) := by decide +kernel
theorem dX12_is_17 : decode cX12_is 17 = .ok (.getfield 20, 3) := by decide +kernel
theorem dX12_is_20 : decode cX12_is 20 = .ok (.iload_n 1, 1) := by decide +kernel
theorem dX12_is_21 : decode cX12_is 21 = .ok (.iaload, 1) := by decide +kernel
theorem dX12_is_22 : decode cX12_is 22 = .ok (.isub, 1) := by decide +kernel
theorem dX12_is_23 : decode cX12_is 23 = .ok (.aload_n 2, 1) := by decide +kernel
theorem dX12_is_24 : decode cX12_is 24 = .ok (.invokevirtual 120, 3) := by decide +kernel
theorem dX12_is_27 : decode cX12_is 27 = .ok (.if_icmp .ne 7, 3) := by decide +kernel
theorem dX12_is_30 : decode cX12_is 30 = .ok (.iconst 1, 1) := by decide +kernel
theorem dX12_is_31 : decode cX12_is 31 = .ok (.goto 4, 3) := by decide +kernel
theorem dX12_is_34 : decode cX12_is 34 = .ok (.iconst 0, 1) := by decide +kernel
theorem dX12_is_35 : decode cX12_is 35 = .ok (.istore_n 3, 1) := by decide +kernel
theorem dX12_is_36 : decode cX12_is 36 = .ok (.iconst 0, 1) := by decide +kernel
theorem dX12_is_37 : decode cX12_is 37 = .ok (.istore 4, 2) := by decide +kernel
theorem dX12_is_39 : decode cX12_is 39 = .ok (.iload 4, 2) := by decide +kernel
theorem dX12_is_41 : decode cX12_is 41 = .ok (.aload_n 2, 1) := by decide +kernel
theorem dX12_is_42 : decode cX12_is 42 = .ok (.invokevirtual 120, 3) := by decide +kernel
theorem dX12_is_45 : decode cX12_is 45 = .ok (.if_icmp .ge 42, 3) := by decide +kernel
theorem dX12_is_48 : decode cX12_is 48 = .ok (.iload_n 3, 1) := by decide +kernel
theorem dX12_is_49 : decode cX12_is 49 = .ok (.ifCond .eq 38, 3) := by decide +kernel
theorem dX12_is_52 : decode cX12_is 52 = .ok (.aload_n 0, 1) := by decide +kernel
theorem dX12_is_53 : decode cX12_is 53 = .ok (.getfield 9, 3) := by decide +kernel
theorem dX12_is_56 : decode cX12_is 56 = .ok (.aload_n 0, 1) := by decide +kernel
theorem dX12_is_57 : decode cX12_is 57 = .ok (.getfield 20, 3) := by decide +kernel
theorem dX12_is_60 : decode cX12_is 60 = .ok (.iload_n 1, 1) := by decide +kernel
theorem dX12_is_61 : decode cX12_is 61 = .ok (.iaload, 1) := by decide +kernel
theorem dX12_is_62 : decode cX12_is 62 = .ok (.iload 4, 2) := by decide +kernel
theorem dX12_is_64 : decode cX12_is 64 = .ok (.iadd, 1) := by decide +kernel
theorem dX12_is_65 : decode cX12_is 65 = .ok (.iaload, 1) := by decide +kernel
theorem dX12_is_66 : decode cX12_is 66 = .ok (.aload_n 2, 1) := by decide +kernel
theorem dX12_is_67 : decode cX12_is 67 = .ok (.iload 4, 2) := by decide +kernel
theorem dX12_is_69 : decode cX12_is 69 = .ok (.invokevirtual 124, 3) := by decide +kernel
theorem dX12_is_72 : decode cX12_is 72 = .ok (.if_icmp .ne 7, 3) := by decide +kernel
theorem dX12_is_75 : decode cX12_is 75 = .ok (.iconst 1, 1) := by decide +kernel
theorem dX12_is_76 : decode cX12_is 76 = .ok (.goto 4, 3) := by decide +kernel
theorem dX12_is_79 : decode cX12_is 79 = .ok (.iconst 0, 1) := by decide +kernel
theorem dX12_is_80 : decode cX12_is 80 = .ok (.istore_n 3, 1) := by decide +kernel
theorem dX12_is_81 : decode cX12_is 81 = .ok (.iinc 4 1, 3) := by decide +kernel
theorem dX12_is_84 : decode cX12_is 84 = .ok (.goto (-45), 3) := by decide +kernel
theorem dX12_is_87 : decode cX12_is 87 = .ok (.iload_n 3, 1) := by decide +kernel
theorem dX12_is_88 : decode cX12_is 88 = .ok (.ireturn, 1) := by decide +kernel
theorem dX12_wordAt_0 : decode cX12_wordAt 0 = .ok (.iconst (-1), 1) := by decide +kernel
theorem dX12_wordAt_1 : decode cX12_wordAt 1 = .ok (.istore_n 2, 1) := by decide +kernel
theorem dX12_wordAt_2 : decode cX12_wordAt 2 = .ok (.iconst 0, 1) := by decide +kernel
theorem dX12_wordAt_3 : decode cX12_wordAt 3 = .ok (.istore_n 3, 1) := by decide +kernel
theorem dX12_wordAt_4 : decode cX12_wordAt 4 = .ok (.iload_n 3, 1) := by decide +kernel
theorem dX12_wordAt_5 : decode cX12_wordAt 5 = .ok (.getstatic 128, 3) := by decide +kernel
theorem dX12_wordAt_8 : decode cX12_wordAt 8 = .ok (.arraylength, 1) := by decide +kernel
theorem dX12_wordAt_9 : decode cX12_wordAt 9 = .ok (.if_icmp .ge 24, 3) := by decide +kernel
theorem dX12_wordAt_12 : decode cX12_wordAt 12 = .ok (.aload_n 0, 1) := by decide +kernel
theorem dX12_wordAt_13 : decode cX12_wordAt 13 = .ok (.iload_n 1, 1) := by decide +kernel
theorem dX12_wordAt_14 : decode cX12_wordAt 14 = .ok (.getstatic 128, 3) := by decide +kernel
theorem dX12_wordAt_17 : decode cX12_wordAt 17 = .ok (.iload_n 3, 1) := by decide +kernel
theorem dX12_wordAt_18 : decode cX12_wordAt 18 = .ok (.aaload, 1) := by decide +kernel
theorem dX12_wordAt_19 : decode cX12_wordAt 19 = .ok (.invokevirtual 132, 3) := by decide +kernel
theorem dX12_wordAt_22 : decode cX12_wordAt 22 = .ok (.ifCond .eq 5, 3) := by decide +kernel
theorem dX12_wordAt_25 : decode cX12_wordAt 25 = .ok (.iload_n 3, 1) := by decide +kernel
theorem dX12_wordAt_26 : decode cX12_wordAt 26 = .ok (.istore_n 2, 1) := by decide +kernel
theorem dX12_wordAt_27 : decode cX12_wordAt 27 = .ok (.iinc 3 1, 3) := by decide +kernel
theorem dX12_wordAt_30 : decode cX12_wordAt 30 = .ok (.goto (-26), 3) := by decide +kernel
theorem dX12_wordAt_33 : decode cX12_wordAt 33 = .ok (.iload_n 2, 1) := by decide +kernel
theorem dX12_wordAt_34 : decode cX12_wordAt 34 = .ok (.ireturn, 1) := by decide +kernel
theorem dX12_numberAt_0 : decode cX12_numberAt 0 = .ok (.iconst 0, 1) := by decide +kernel
theorem dX12_numberAt_1 : decode cX12_numberAt 1 = .ok (.istore_n 2, 1) := by decide +kernel
theorem dX12_numberAt_2 : decode cX12_numberAt 2 = .ok (.aload_n 0, 1) := by decide +kernel
theorem dX12_numberAt_3 : decode cX12_numberAt 3 = .ok (.getfield 20, 3) := by decide +kernel
theorem dX12_numberAt_6 : decode cX12_numberAt 6 = .ok (.iload_n 1, 1) := by decide +kernel
theorem dX12_numberAt_7 : decode cX12_numberAt 7 = .ok (.iaload, 1) := by decide +kernel
theorem dX12_numberAt_8 : decode cX12_numberAt 8 = .ok (.istore_n 3, 1) := by decide +kernel
theorem dX12_numberAt_9 : decode cX12_numberAt 9 = .ok (.iload_n 3, 1) := by decide +kernel
theorem dX12_numberAt_10 : decode cX12_numberAt 10 = .ok (.aload_n 0, 1) := by decide +kernel
theorem dX12_numberAt_11 : decode cX12_numberAt 11 = .ok (.getfield 23, 3) := by decide +kernel
theorem dX12_numberAt_14 : decode cX12_numberAt 14 = .ok (.iload_n 1, 1) := by decide +kernel
theorem dX12_numberAt_15 : decode cX12_numberAt 15 = .ok (.iaload, 1) := by decide +kernel
theorem dX12_numberAt_16 : decode cX12_numberAt 16 = .ok (.if_icmp .ge 24, 3) := by decide +kernel
theorem dX12_numberAt_19 : decode cX12_numberAt 19 = .ok (.bipush 10, 2) := by decide +kernel
theorem dX12_numberAt_21 : decode cX12_numberAt 21 = .ok (.iload_n 2, 1) := by decide +kernel
theorem dX12_numberAt_22 : decode cX12_numberAt 22 = .ok (.imul, 1) := by decide +kernel
theorem dX12_numberAt_23 : decode cX12_numberAt 23 = .ok (.aload_n 0, 1) := by decide +kernel
theorem dX12_numberAt_24 : decode cX12_numberAt 24 = .ok (.getfield 9, 3) := by decide +kernel
theorem dX12_numberAt_27 : decode cX12_numberAt 27 = .ok (.iload_n 3, 1) := by decide +kernel
theorem dX12_numberAt_28 : decode cX12_numberAt 28 = .ok (.iaload, 1) := by decide +kernel
theorem dX12_numberAt_29 : decode cX12_numberAt 29 = .ok (.iadd, 1) := by decide +kernel
theorem dX12_numberAt_30 : decode cX12_numberAt 30 = .ok (.bipush 48, 2) := by decide +kernel
theorem dX12_numberAt_32 : decode cX12_numberAt 32 = .ok (.isub, 1) := by decide +kernel
theorem dX12_numberAt_33 : decode cX12_numberAt 33 = .ok (.istore_n 2, 1) := by decide +kernel
theorem dX12_numberAt_34 : decode cX12_numberAt 34 = .ok (.iinc 3 1, 3) := by decide +kernel
theorem dX12_numberAt_37 : decode cX12_numberAt 37 = .ok (.goto (-28), 3) := by decide +kernel
theorem dX12_numberAt_40 : decode cX12_numberAt 40 = .ok (.iload_n 2, 1) := by decide +kernel
theorem dX12_numberAt_41 : decode cX12_numberAt 41 = .ok (.ireturn, 1) := by decide +kernel
theorem dX12_takes_0 : decode cX12_takes 0 = .ok (.aload_n 0, 1) := by decide +kernel
theorem dX12_takes_1 : decode cX12_takes 1 = .ok (.getfield 17, 3) := by decide +kernel
theorem dX12_takes_4 : decode cX12_takes 4 = .ok (.aload_n 0, 1) := by decide +kernel
theorem dX12_takes_5 : decode cX12_takes 5 = .ok (.getfield 136, 3) := by decide +kernel
theorem dX12_takes_8 : decode cX12_takes 8 = .ok (.iaload, 1) := by decide +kernel
theorem dX12_takes_9 : decode cX12_takes 9 = .ok (.iload_n 1, 1) := by decide +kernel
theorem dX12_takes_10 : decode cX12_takes 10 = .ok (.if_icmp .eq 5, 3) := by decide +kernel
theorem dX12_takes_13 : decode cX12_takes 13 = .ok (.iconst 0, 1) := by decide +kernel
theorem dX12_takes_14 : decode cX12_takes 14 = .ok (.ireturn, 1) := by decide +kernel
theorem dX12_takes_15 : decode cX12_takes 15 = .ok (.aload_n 0, 1) := by decide +kernel
theorem dX12_takes_16 : decode cX12_takes 16 = .ok (.dup, 1) := by decide +kernel
theorem dX12_takes_17 : decode cX12_takes 17 = .ok (.getfield 136, 3) := by decide +kernel
theorem dX12_takes_20 : decode cX12_takes 20 = .ok (.iconst 1, 1) := by decide +kernel
theorem dX12_takes_21 : decode cX12_takes 21 = .ok (.iadd, 1) := by decide +kernel
theorem dX12_takes_22 : decode cX12_takes 22 = .ok (.putfield 136, 3) := by decide +kernel
theorem dX12_takes_25 : decode cX12_takes 25 = .ok (.iconst 1, 1) := by decide +kernel
theorem dX12_takes_26 : decode cX12_takes 26 = .ok (.ireturn, 1) := by decide +kernel
theorem dX12_form_0 : decode cX12_form 0 = .ok (.aload_n 0, 1) := by decide +kernel
theorem dX12_form_1 : decode cX12_form 1 = .ok (.iconst 0, 1) := by decide +kernel
theorem dX12_form_2 : decode cX12_form 2 = .ok (.putfield 136, 3) := by decide +kernel
theorem dX12_form_5 : decode cX12_form 5 = .ok (.aload_n 0, 1) := by decide +kernel
theorem dX12_form_6 : decode cX12_form 6 = .ok (.iconst 0, 1) := by decide +kernel
theorem dX12_form_7 : decode cX12_form 7 = .ok (.ldc 139, 2) := by decide +kernel
theorem dX12_form_9 : decode cX12_form 9 = .ok (.invokevirtual 132, 3) := by decide +kernel
theorem dX12_form_12 : decode cX12_form 12 = .ok (.ifCond .ne 5, 3) := by decide +kernel
theorem dX12_form_15 : decode cX12_form 15 = .ok (.iconst 0, 1) := by decide +kernel
theorem dX12_form_16 : decode cX12_form 16 = .ok (.ireturn, 1) := by decide +kernel
theorem dX12_form_17 : decode cX12_form 17 = .ok (.aload_n 0, 1) := by decide +kernel
theorem dX12_form_18 : decode cX12_form 18 = .ok (.iconst 1, 1) := by decide +kernel
theorem dX12_form_19 : decode cX12_form 19 = .ok (.putfield 136, 3) := by decide +kernel
theorem dX12_form_22 : decode cX12_form 22 = .ok (.aload_n 0, 1) := by decide +kernel
theorem dX12_form_23 : decode cX12_form 23 = .ok (.iconst 3, 1) := by decide +kernel
theorem dX12_form_24 : decode cX12_form 24 = .ok (.invokevirtual 140, 3) := by decide +kernel
theorem dX12_form_27 : decode cX12_form 27 = .ok (.ifCond .eq 27, 3) := by decide +kernel
theorem dX12_form_30 : decode cX12_form 30 = .ok (.aload_n 0, 1) := by decide +kernel
theorem dX12_form_31 : decode cX12_form 31 = .ok (.iconst 3, 1) := by decide +kernel
theorem dX12_form_32 : decode cX12_form 32 = .ok (.invokevirtual 140, 3) := by decide +kernel
theorem dX12_form_35 : decode cX12_form 35 = .ok (.ifCond .eq 19, 3) := by decide +kernel
theorem dX12_form_38 : decode cX12_form 38 = .ok (.aload_n 0, 1) := by decide +kernel
theorem dX12_form_39 : decode cX12_form 39 = .ok (.iconst 3, 1) := by decide +kernel
theorem dX12_form_40 : decode cX12_form 40 = .ok (.invokevirtual 140, 3) := by decide +kernel
theorem dX12_form_43 : decode cX12_form 43 = .ok (.ifCond .eq 11, 3) := by decide +kernel
theorem dX12_form_46 : decode cX12_form 46 = .ok (.aload_n 0, 1) := by decide +kernel
theorem dX12_form_47 : decode cX12_form 47 = .ok (.iconst 4, 1) := by decide +kernel
theorem dX12_form_48 : decode cX12_form 48 = .ok (.invokevirtual 140, 3) := by decide +kernel
theorem dX12_form_51 : decode cX12_form 51 = .ok (.ifCond .ne 5, 3) := by decide +kernel
theorem dX12_form_54 : decode cX12_form 54 = .ok (.iconst 0, 1) := by decide +kernel
theorem dX12_form_55 : decode cX12_form 55 = .ok (.ireturn, 1) := by decide +kernel
theorem dX12_form_56 : decode cX12_form 56 = .ok (.aload_n 0, 1) := by decide +kernel
theorem dX12_form_57 : decode cX12_form 57 = .ok (.getfield 17, 3) := by decide +kernel
theorem dX12_form_60 : decode cX12_form 60 = .ok (.aload_n 0, 1) := by decide +kernel
theorem dX12_form_61 : decode cX12_form 61 = .ok (.getfield 136, 3) := by decide +kernel
theorem dX12_form_64 : decode cX12_form 64 = .ok (.iaload, 1) := by decide +kernel
theorem dX12_form_65 : decode cX12_form 65 = .ok (.ifCond .eq 20, 3) := by decide +kernel
theorem dX12_form_68 : decode cX12_form 68 = .ok (.aload_n 0, 1) := by decide +kernel
theorem dX12_form_69 : decode cX12_form 69 = .ok (.invokevirtual 143, 3) := by decide +kernel
theorem dX12_form_72 : decode cX12_form 72 = .ok (.ifCond .eq 11, 3) := by decide +kernel
theorem dX12_form_75 : decode cX12_form 75 = .ok (.aload_n 0, 1) := by decide +kernel
theorem dX12_form_76 : decode cX12_form 76 = .ok (.iconst 4, 1) := by decide +kernel
theorem dX12_form_77 : decode cX12_form 77 = .ok (.invokevirtual 140, 3) := by decide +kernel
theorem dX12_form_80 : decode cX12_form 80 = .ok (.ifCond .ne (-24), 3) := by decide +kernel
theorem dX12_form_83 : decode cX12_form 83 = .ok (.iconst 0, 1) := by decide +kernel
theorem dX12_form_84 : decode cX12_form 84 = .ok (.ireturn, 1) := by decide +kernel
theorem dX12_form_85 : decode cX12_form 85 = .ok (.iconst 1, 1) := by decide +kernel
theorem dX12_form_86 : decode cX12_form 86 = .ok (.ireturn, 1) := by decide +kernel
theorem dX12_ruleForm_0 : decode cX12_ruleForm 0 = .ok (.aload_n 0, 1) := by decide +kernel
theorem dX12_ruleForm_1 : decode cX12_ruleForm 1 = .ok (.aload_n 0, 1) := by decide +kernel
theorem dX12_ruleForm_2 : decode cX12_ruleForm 2 = .ok (.getfield 136, 3) := by decide +kernel
theorem dX12_ruleForm_5 : decode cX12_ruleForm 5 = .ok (.invokevirtual 147, 3) := by decide +kernel
theorem dX12_ruleForm_8 : decode cX12_ruleForm 8 = .ok (.istore_n 1, 1) := by decide +kernel
theorem dX12_ruleForm_9 : decode cX12_ruleForm 9 = .ok (.iload_n 1, 1) := by decide +kernel
theorem dX12_ruleForm_10 : decode cX12_ruleForm 10 = .ok (.iconst (-1), 1) := by decide +kernel
theorem dX12_ruleForm_11 : decode cX12_ruleForm 11 = .ok (.if_icmp .ne 5, 3) := by decide +kernel
theorem dX12_ruleForm_14 : decode cX12_ruleForm 14 = .ok (.iconst 0, 1) := by decide +kernel
theorem dX12_ruleForm_15 : decode cX12_ruleForm 15 = .ok (.ireturn, 1) := by decide +kernel
theorem dX12_ruleForm_16 : decode cX12_ruleForm 16 = .ok (.aload_n 0, 1) := by decide +kernel
theorem dX12_ruleForm_17 : decode cX12_ruleForm 17 = .ok (.dup, 1) := by decide +kernel
theorem dX12_ruleForm_18 : decode cX12_ruleForm 18 = .ok (.getfield 136, 3) := by decide +kernel
theorem dX12_ruleForm_21 : decode cX12_ruleForm 21 = .ok (.iconst 1, 1) := by decide +kernel
theorem dX12_ruleForm_22 : decode cX12_ruleForm 22 = .ok (.iadd, 1) := by decide +kernel
theorem dX12_ruleForm_23 : decode cX12_ruleForm 23 = .ok (.putfield 136, 3) := by decide +kernel
theorem dX12_ruleForm_26 : decode cX12_ruleForm 26 = .ok (.iconst 0, 1) := by decide +kernel
theorem dX12_ruleForm_27 : decode cX12_ruleForm 27 = .ok (.istore_n 2, 1) := by decide +kernel
theorem dX12_ruleForm_28 : decode cX12_ruleForm 28 = .ok (.iload_n 2, 1) := by decide +kernel
theorem dX12_ruleForm_29 : decode cX12_ruleForm 29 = .ok (.getstatic 150, 3) := by decide +kernel
theorem dX12_ruleForm_32 : decode cX12_ruleForm 32 = .ok (.iload_n 1, 1) := by decide +kernel
theorem dX12_ruleForm_33 : decode cX12_ruleForm 33 = .ok (.iaload, 1) := by decide +kernel
theorem dX12_ruleForm_34 : decode cX12_ruleForm 34 = .ok (.if_icmp .ge 19, 3) := by decide +kernel
theorem dX12_ruleForm_37 : decode cX12_ruleForm 37 = .ok (.aload_n 0, 1) := by decide +kernel
theorem dX12_ruleForm_38 : decode cX12_ruleForm 38 = .ok (.iconst 3, 1) := by decide +kernel
theorem dX12_ruleForm_39 : decode cX12_ruleForm 39 = .ok (.invokevirtual 140, 3) := by decide +kernel
theorem dX12_ruleForm_42 : decode cX12_ruleForm 42 = .ok (.ifCond .ne 5, 3) := by decide +kernel
theorem dX12_ruleForm_45 : decode cX12_ruleForm 45 = .ok (.iconst 0, 1) := by decide +kernel
theorem dX12_ruleForm_46 : decode cX12_ruleForm 46 = .ok (.ireturn, 1) := by decide +kernel
theorem dX12_ruleForm_47 : decode cX12_ruleForm 47 = .ok (.iinc 2 1, 3) := by decide +kernel
theorem dX12_ruleForm_50 : decode cX12_ruleForm 50 = .ok (.goto (-22), 3) := by decide +kernel
theorem dX12_ruleForm_53 : decode cX12_ruleForm 53 = .ok (.iload_n 1, 1) := by decide +kernel
theorem dX12_ruleForm_54 : decode cX12_ruleForm 54 = .ok (.bipush 12, 2) := by decide +kernel
theorem dX12_ruleForm_56 : decode cX12_ruleForm 56 = .ok (.if_icmp .lt 5, 3) := by decide +kernel
theorem dX12_ruleForm_59 : decode cX12_ruleForm 59 = .ok (.iconst 1, 1) := by decide +kernel
theorem dX12_ruleForm_60 : decode cX12_ruleForm 60 = .ok (.ireturn, 1) := by decide +kernel
theorem dX12_ruleForm_61 : decode cX12_ruleForm 61 = .ok (.aload_n 0, 1) := by decide +kernel
theorem dX12_ruleForm_62 : decode cX12_ruleForm 62 = .ok (.iconst 1, 1) := by decide +kernel
theorem dX12_ruleForm_63 : decode cX12_ruleForm 63 = .ok (.invokevirtual 140, 3) := by decide +kernel
theorem dX12_ruleForm_66 : decode cX12_ruleForm 66 = .ok (.ifCond .ne 5, 3) := by decide +kernel
theorem dX12_ruleForm_69 : decode cX12_ruleForm 69 = .ok (.iconst 0, 1) := by decide +kernel
theorem dX12_ruleForm_70 : decode cX12_ruleForm 70 = .ok (.ireturn, 1) := by decide +kernel
theorem dX12_ruleForm_71 : decode cX12_ruleForm 71 = .ok (.iload_n 1, 1) := by decide +kernel
theorem dX12_ruleForm_72 : decode cX12_ruleForm 72 = .ok (.bipush 9, 2) := by decide +kernel
theorem dX12_ruleForm_74 : decode cX12_ruleForm 74 = .ok (.if_icmp .ne 9, 3) := by decide +kernel
theorem dX12_ruleForm_77 : decode cX12_ruleForm 77 = .ok (.aload_n 0, 1) := by decide +kernel
theorem dX12_ruleForm_78 : decode cX12_ruleForm 78 = .ok (.iconst 3, 1) := by decide +kernel
theorem dX12_ruleForm_79 : decode cX12_ruleForm 79 = .ok (.invokevirtual 140, 3) := by decide +kernel
theorem dX12_ruleForm_82 : decode cX12_ruleForm 82 = .ok (.ireturn, 1) := by decide +kernel
theorem dX12_ruleForm_83 : decode cX12_ruleForm 83 = .ok (.iload_n 1, 1) := by decide +kernel
theorem dX12_ruleForm_84 : decode cX12_ruleForm 84 = .ok (.iconst 3, 1) := by decide +kernel
theorem dX12_ruleForm_85 : decode cX12_ruleForm 85 = .ok (.if_icmp .ne 9, 3) := by decide +kernel
theorem dX12_ruleForm_88 : decode cX12_ruleForm 88 = .ok (.aload_n 0, 1) := by decide +kernel
theorem dX12_ruleForm_89 : decode cX12_ruleForm 89 = .ok (.iconst 1, 1) := by decide +kernel
theorem dX12_ruleForm_90 : decode cX12_ruleForm 90 = .ok (.invokevirtual 140, 3) := by decide +kernel
theorem dX12_ruleForm_93 : decode cX12_ruleForm 93 = .ok (.ireturn, 1) := by decide +kernel
theorem dX12_ruleForm_94 : decode cX12_ruleForm 94 = .ok (.aload_n 0, 1) := by decide +kernel
theorem dX12_ruleForm_95 : decode cX12_ruleForm 95 = .ok (.getfield 17, 3) := by decide +kernel
theorem dX12_ruleForm_98 : decode cX12_ruleForm 98 = .ok (.aload_n 0, 1) := by decide +kernel
theorem dX12_ruleForm_99 : decode cX12_ruleForm 99 = .ok (.getfield 136, 3) := by decide +kernel
theorem dX12_ruleForm_102 : decode cX12_ruleForm 102 = .ok (.iaload, 1) := by decide +kernel
theorem dX12_ruleForm_103 : decode cX12_ruleForm 103 = .ok (.iconst 1, 1) := by decide +kernel
theorem dX12_ruleForm_104 : decode cX12_ruleForm 104 = .ok (.if_icmp .ne 16, 3) := by decide +kernel
theorem dX12_ruleForm_107 : decode cX12_ruleForm 107 = .ok (.aload_n 0, 1) := by decide +kernel
theorem dX12_ruleForm_108 : decode cX12_ruleForm 108 = .ok (.dup, 1) := by decide +kernel
theorem dX12_ruleForm_109 : decode cX12_ruleForm 109 = .ok (.getfield 136, 3) := by decide +kernel
theorem dX12_ruleForm_112 : decode cX12_ruleForm 112 = .ok (.iconst 1, 1) := by decide +kernel
theorem dX12_ruleForm_113 : decode cX12_ruleForm 113 = .ok (.iadd, 1) := by decide +kernel
theorem dX12_ruleForm_114 : decode cX12_ruleForm 114 = .ok (.putfield 136, 3) := by decide +kernel
theorem dX12_ruleForm_117 : decode cX12_ruleForm 117 = .ok (.goto (-23), 3) := by decide +kernel
theorem dX12_ruleForm_120 : decode cX12_ruleForm 120 = .ok (.iconst 1, 1) := by decide +kernel
theorem dX12_ruleForm_121 : decode cX12_ruleForm 121 = .ok (.ireturn, 1) := by decide +kernel
theorem dX12_wrong_0 : decode cX12_wrong 0 = .ok (.aload_n 0, 1) := by decide +kernel
theorem dX12_wrong_1 : decode cX12_wrong 1 = .ok (.iload_n 1, 1) := by decide +kernel
theorem dX12_wrong_2 : decode cX12_wrong 2 = .ok (.putfield 153, 3) := by decide +kernel
theorem dX12_wrong_5 : decode cX12_wrong 5 = .ok (.aload_n 0, 1) := by decide +kernel
theorem dX12_wrong_6 : decode cX12_wrong 6 = .ok (.aload_n 0, 1) := by decide +kernel
theorem dX12_wrong_7 : decode cX12_wrong 7 = .ok (.getfield 20, 3) := by decide +kernel
theorem dX12_wrong_10 : decode cX12_wrong 10 = .ok (.iload_n 2, 1) := by decide +kernel
theorem dX12_wrong_11 : decode cX12_wrong 11 = .ok (.iaload, 1) := by decide +kernel
theorem dX12_wrong_12 : decode cX12_wrong 12 = .ok (.putfield 13, 3) := by decide +kernel
theorem dX12_wrong_15 : decode cX12_wrong 15 = .ok (.iconst 0, 1) := by decide +kernel
theorem dX12_wrong_16 : decode cX12_wrong 16 = .ok (.ireturn, 1) := by decide +kernel
theorem dX12_meaning_0 : decode cX12_meaning 0 = .ok (.iconst 1, 1) := by decide +kernel
theorem dX12_meaning_1 : decode cX12_meaning 1 = .ok (.istore_n 1, 1) := by decide +kernel
theorem dX12_meaning_2 : decode cX12_meaning 2 = .ok (.iload_n 1, 1) := by decide +kernel
theorem dX12_meaning_3 : decode cX12_meaning 3 = .ok (.iconst 4, 1) := by decide +kernel
theorem dX12_meaning_4 : decode cX12_meaning 4 = .ok (.if_icmp .ge 29, 3) := by decide +kernel
theorem dX12_meaning_7 : decode cX12_meaning 7 = .ok (.aload_n 0, 1) := by decide +kernel
theorem dX12_meaning_8 : decode cX12_meaning 8 = .ok (.iload_n 1, 1) := by decide +kernel
theorem dX12_meaning_9 : decode cX12_meaning 9 = .ok (.invokevirtual 156, 3) := by decide +kernel
theorem dX12_meaning_12 : decode cX12_meaning 12 = .ok (.iconst 2, 1) := by decide +kernel
theorem dX12_meaning_13 : decode cX12_meaning 13 = .ok (.iconst 5, 1) := by decide +kernel
theorem dX12_meaning_14 : decode cX12_meaning 14 = .ok (.invokestatic 96, 3) := by decide +kernel
theorem dX12_meaning_17 : decode cX12_meaning 17 = .ok (.ifCond .ne 10, 3) := by decide +kernel
theorem dX12_meaning_20 : decode cX12_meaning 20 = .ok (.aload_n 0, 1) := by decide +kernel
theorem dX12_meaning_21 : decode cX12_meaning 21 = .ok (.iconst 2, 1) := by decide +kernel
theorem dX12_meaning_22 : decode cX12_meaning 22 = .ok (.iload_n 1, 1) := by decide +kernel
theorem dX12_meaning_23 : decode cX12_meaning 23 = .ok (.invokevirtual 159, 3) := by decide +kernel
theorem dX12_meaning_26 : decode cX12_meaning 26 = .ok (.ireturn, 1) := by decide +kernel
theorem dX12_meaning_27 : decode cX12_meaning 27 = .ok (.iinc 1 1, 3) := by decide +kernel
theorem dX12_meaning_30 : decode cX12_meaning 30 = .ok (.goto (-28), 3) := by decide +kernel
theorem dX12_meaning_33 : decode cX12_meaning 33 = .ok (.aload_n 0, 1) := by decide +kernel
theorem dX12_meaning_34 : decode cX12_meaning 34 = .ok (.aload_n 0, 1) := by decide +kernel
theorem dX12_meaning_35 : decode cX12_meaning 35 = .ok (.iconst 1, 1) := by decide +kernel
theorem dX12_meaning_36 : decode cX12_meaning 36 = .ok (.invokevirtual 156, 3) := by decide +kernel
theorem dX12_meaning_39 : decode cX12_meaning 39 = .ok (.putfield 163, 3) := by decide +kernel
theorem dX12_meaning_42 : decode cX12_meaning 42 = .ok (.aload_n 0, 1) := by decide +kernel
theorem dX12_meaning_43 : decode cX12_meaning 43 = .ok (.aload_n 0, 1) := by decide +kernel
theorem dX12_meaning_44 : decode cX12_meaning 44 = .ok (.iconst 2, 1) := by decide +kernel
theorem dX12_meaning_45 : decode cX12_meaning 45 = .ok (.invokevirtual 156, 3) := by decide +kernel
theorem dX12_meaning_48 : decode cX12_meaning 48 = .ok (.putfield 166, 3) := by decide +kernel
theorem dX12_meaning_51 : decode cX12_meaning 51 = .ok (.aload_n 0, 1) := by decide +kernel
theorem dX12_meaning_52 : decode cX12_meaning 52 = .ok (.aload_n 0, 1) := by decide +kernel
theorem dX12_meaning_53 : decode cX12_meaning 53 = .ok (.iconst 3, 1) := by decide +kernel
theorem dX12_meaning_54 : decode cX12_meaning 54 = .ok (.invokevirtual 156, 3) := by decide +kernel
theorem dX12_meaning_57 : decode cX12_meaning 57 = .ok (.putfield 169, 3) := by decide +kernel
theorem dX12_meaning_60 : decode cX12_meaning 60 = .ok (.aload_n 0, 1) := by decide +kernel
theorem dX12_meaning_61 : decode cX12_meaning 61 = .ok (.iconst 0, 1) := by decide +kernel
theorem dX12_meaning_62 : decode cX12_meaning 62 = .ok (.putfield 172, 3) := by decide +kernel
theorem dX12_meaning_65 : decode cX12_meaning 65 = .ok (.aload_n 0, 1) := by decide +kernel
theorem dX12_meaning_66 : decode cX12_meaning 66 = .ok (.iconst 5, 1) := by decide +kernel
theorem dX12_meaning_67 : decode cX12_meaning 67 = .ok (.putfield 136, 3) := by decide +kernel
theorem dX12_meaning_70 : decode cX12_meaning 70 = .ok (.aload_n 0, 1) := by decide +kernel
theorem dX12_meaning_71 : decode cX12_meaning 71 = .ok (.getfield 17, 3) := by decide +kernel
theorem dX12_meaning_74 : decode cX12_meaning 74 = .ok (.aload_n 0, 1) := by decide +kernel
theorem dX12_meaning_75 : decode cX12_meaning 75 = .ok (.getfield 136, 3) := by decide +kernel
theorem dX12_meaning_78 : decode cX12_meaning 78 = .ok (.iaload, 1) := by decide +kernel
theorem dX12_meaning_79 : decode cX12_meaning 79 = .ok (.ifCond .eq 33, 3) := by decide +kernel
theorem dX12_meaning_82 : decode cX12_meaning 82 = .ok (.aload_n 0, 1) := by decide +kernel
theorem dX12_meaning_83 : decode cX12_meaning 83 = .ok (.aload_n 0, 1) := by decide +kernel
theorem dX12_meaning_84 : decode cX12_meaning 84 = .ok (.aload_n 0, 1) := by decide +kernel
theorem dX12_meaning_85 : decode cX12_meaning 85 = .ok (.getfield 136, 3) := by decide +kernel
theorem dX12_meaning_88 : decode cX12_meaning 88 = .ok (.invokevirtual 147, 3) := by decide +kernel
theorem dX12_meaning_91 : decode cX12_meaning 91 = .ok (.invokevirtual 175, 3) := by decide +kernel
theorem dX12_meaning_94 : decode cX12_meaning 94 = .ok (.ifCond .ne 5, 3) := by decide +kernel
theorem dX12_meaning_97 : decode cX12_meaning 97 = .ok (.iconst 0, 1) := by decide +kernel
theorem dX12_meaning_98 : decode cX12_meaning 98 = .ok (.ireturn, 1) := by decide +kernel
theorem dX12_meaning_99 : decode cX12_meaning 99 = .ok (.aload_n 0, 1) := by decide +kernel
theorem dX12_meaning_100 : decode cX12_meaning 100 = .ok (.dup, 1) := by decide +kernel
theorem dX12_meaning_101 : decode cX12_meaning 101 = .ok (.getfield 136, 3) := by decide +kernel
theorem dX12_meaning_104 : decode cX12_meaning 104 = .ok (.iconst 1, 1) := by decide +kernel
theorem dX12_meaning_105 : decode cX12_meaning 105 = .ok (.iadd, 1) := by decide +kernel
theorem dX12_meaning_106 : decode cX12_meaning 106 = .ok (.putfield 136, 3) := by decide +kernel
theorem dX12_meaning_109 : decode cX12_meaning 109 = .ok (.goto (-39), 3) := by decide +kernel
theorem dX12_meaning_112 : decode cX12_meaning 112 = .ok (.iconst 1, 1) := by decide +kernel
theorem dX12_meaning_113 : decode cX12_meaning 113 = .ok (.ireturn, 1) := by decide +kernel
theorem dX12_lay_0 : decode cX12_lay 0 = .ok (.aload_n 0, 1) := by decide +kernel
theorem dX12_lay_1 : decode cX12_lay 1 = .ok (.getfield 65, 3) := by decide +kernel
theorem dX12_lay_4 : decode cX12_lay 4 = .ok (.aload_n 0, 1) := by decide +kernel
theorem dX12_lay_5 : decode cX12_lay 5 = .ok (.getfield 172, 3) := by decide +kernel
theorem dX12_lay_8 : decode cX12_lay 8 = .ok (.iload_n 1, 1) := by decide +kernel
theorem dX12_lay_9 : decode cX12_lay 9 = .ok (.iastore, 1) := by decide +kernel
theorem dX12_lay_10 : decode cX12_lay 10 = .ok (.aload_n 0, 1) := by decide +kernel
theorem dX12_lay_11 : decode cX12_lay 11 = .ok (.getfield 68, 3) := by decide +kernel
theorem dX12_lay_14 : decode cX12_lay 14 = .ok (.aload_n 0, 1) := by decide +kernel
theorem dX12_lay_15 : decode cX12_lay 15 = .ok (.getfield 172, 3) := by decide +kernel
theorem dX12_lay_18 : decode cX12_lay 18 = .ok (.iload_n 2, 1) := by decide +kernel
theorem dX12_lay_19 : decode cX12_lay 19 = .ok (.iastore, 1) := by decide +kernel
theorem dX12_lay_20 : decode cX12_lay 20 = .ok (.aload_n 0, 1) := by decide +kernel
theorem dX12_lay_21 : decode cX12_lay 21 = .ok (.getfield 71, 3) := by decide +kernel
theorem dX12_lay_24 : decode cX12_lay 24 = .ok (.aload_n 0, 1) := by decide +kernel
theorem dX12_lay_25 : decode cX12_lay 25 = .ok (.getfield 172, 3) := by decide +kernel
theorem dX12_lay_28 : decode cX12_lay 28 = .ok (.iload_n 3, 1) := by decide +kernel
theorem dX12_lay_29 : decode cX12_lay 29 = .ok (.iastore, 1) := by decide +kernel
theorem dX12_lay_30 : decode cX12_lay 30 = .ok (.aload_n 0, 1) := by decide +kernel
theorem dX12_lay_31 : decode cX12_lay 31 = .ok (.getfield 74, 3) := by decide +kernel
theorem dX12_lay_34 : decode cX12_lay 34 = .ok (.aload_n 0, 1) := by decide +kernel
theorem dX12_lay_35 : decode cX12_lay 35 = .ok (.getfield 172, 3) := by decide +kernel
theorem dX12_lay_38 : decode cX12_lay 38 = .ok (.iconst 0, 1) := by decide +kernel
theorem dX12_lay_39 : decode cX12_lay 39 = .ok (.iastore, 1) := by decide +kernel
theorem dX12_lay_40 : decode cX12_lay 40 = .ok (.return_, 1) := by decide +kernel
theorem dX12_layCell_0 : decode cX12_layCell 0 = .ok (.aload_n 0, 1) := by decide +kernel
theorem dX12_layCell_1 : decode cX12_layCell 1 = .ok (.getfield 77, 3) := by decide +kernel
theorem dX12_layCell_4 : decode cX12_layCell 4 = .ok (.iconst 5, 1) := by decide +kernel
theorem dX12_layCell_5 : decode cX12_layCell 5 = .ok (.aload_n 0, 1) := by decide +kernel
theorem dX12_layCell_6 : decode cX12_layCell 6 = .ok (.getfield 172, 3) := by decide +kernel
theorem dX12_layCell_9 : decode cX12_layCell 9 = .ok (.imul, 1) := by decide +kernel
theorem dX12_layCell_10 : decode cX12_layCell 10 = .ok (.aload_n 0, 1) := by decide +kernel
theorem dX12_layCell_11 : decode cX12_layCell 11 = .ok (.getfield 74, 3) := by decide +kernel
theorem dX12_layCell_14 : decode cX12_layCell 14 = .ok (.aload_n 0, 1) := by decide +kernel
theorem dX12_layCell_15 : decode cX12_layCell 15 = .ok (.getfield 172, 3) := by decide +kernel
theorem dX12_layCell_18 : decode cX12_layCell 18 = .ok (.iaload, 1) := by decide +kernel
theorem dX12_layCell_19 : decode cX12_layCell 19 = .ok (.iadd, 1) := by decide +kernel
theorem dX12_layCell_20 : decode cX12_layCell 20 = .ok (.iload_n 1, 1) := by decide +kernel
theorem dX12_layCell_21 : decode cX12_layCell 21 = .ok (.iastore, 1) := by decide +kernel
theorem dX12_layCell_22 : decode cX12_layCell 22 = .ok (.aload_n 0, 1) := by decide +kernel
theorem dX12_layCell_23 : decode cX12_layCell 23 = .ok (.getfield 74, 3) := by decide +kernel
theorem dX12_layCell_26 : decode cX12_layCell 26 = .ok (.aload_n 0, 1) := by decide +kernel
theorem dX12_layCell_27 : decode cX12_layCell 27 = .ok (.getfield 172, 3) := by decide +kernel
theorem dX12_layCell_30 : decode cX12_layCell 30 = .ok (.dup2, 1) := by decide +kernel
theorem dX12_layCell_31 : decode cX12_layCell 31 = .ok (.iaload, 1) := by decide +kernel
theorem dX12_layCell_32 : decode cX12_layCell 32 = .ok (.iconst 1, 1) := by decide +kernel
theorem dX12_layCell_33 : decode cX12_layCell 33 = .ok (.iadd, 1) := by decide +kernel
theorem dX12_layCell_34 : decode cX12_layCell 34 = .ok (.iastore, 1) := by decide +kernel
theorem dX12_layCell_35 : decode cX12_layCell 35 = .ok (.return_, 1) := by decide +kernel
theorem dX12_ruleMeaning_0 : decode cX12_ruleMeaning 0 = .ok (.iload_n 1, 1) := by decide +kernel
theorem dX12_ruleMeaning_1 : decode cX12_ruleMeaning 1 = .ok (.bipush 12, 2) := by decide +kernel
theorem dX12_ruleMeaning_3 : decode cX12_ruleMeaning 3 = .ok (.if_icmp .ne 10, 3) := by decide +kernel
theorem dX12_ruleMeaning_6 : decode cX12_ruleMeaning 6 = .ok (.aload_n 0, 1) := by decide +kernel
theorem dX12_ruleMeaning_7 : decode cX12_ruleMeaning 7 = .ok (.getfield 166, 3) := by decide +kernel
theorem dX12_ruleMeaning_10 : decode cX12_ruleMeaning 10 = .ok (.goto 17, 3) := by decide +kernel
theorem dX12_ruleMeaning_13 : decode cX12_ruleMeaning 13 = .ok (.iload_n 1, 1) := by decide +kernel
theorem dX12_ruleMeaning_14 : decode cX12_ruleMeaning 14 = .ok (.bipush 13, 2) := by decide +kernel
theorem dX12_ruleMeaning_16 : decode cX12_ruleMeaning 16 = .ok (.if_icmp .ne 10, 3) := by decide +kernel
theorem dX12_ruleMeaning_19 : decode cX12_ruleMeaning 19 = .ok (.aload_n 0, 1) := by decide +kernel
theorem dX12_ruleMeaning_20 : decode cX12_ruleMeaning 20 = .ok (.getfield 163, 3) := by decide +kernel
theorem dX12_ruleMeaning_23 : decode cX12_ruleMeaning 23 = .ok (.goto 4, 3) := by decide +kernel
theorem dX12_ruleMeaning_26 : decode cX12_ruleMeaning 26 = .ok (.iconst 1, 1) := by decide +kernel
theorem dX12_ruleMeaning_27 : decode cX12_ruleMeaning 27 = .ok (.istore_n 2, 1) := by decide +kernel
theorem dX12_ruleMeaning_28 : decode cX12_ruleMeaning 28 = .ok (.aload_n 0, 1) := by decide +kernel
theorem dX12_ruleMeaning_29 : decode cX12_ruleMeaning 29 = .ok (.getfield 172, 3) := by decide +kernel
theorem dX12_ruleMeaning_32 : decode cX12_ruleMeaning 32 = .ok (.iload_n 2, 1) := by decide +kernel
theorem dX12_ruleMeaning_33 : decode cX12_ruleMeaning 33 = .ok (.iadd, 1) := by decide +kernel
theorem dX12_ruleMeaning_34 : decode cX12_ruleMeaning 34 = .ok (.bipush 40, 2) := by decide +kernel
theorem dX12_ruleMeaning_36 : decode cX12_ruleMeaning 36 = .ok (.if_icmp .le 13, 3) := by decide +kernel
theorem dX12_ruleMeaning_39 : decode cX12_ruleMeaning 39 = .ok (.aload_n 0, 1) := by decide +kernel
theorem dX12_ruleMeaning_40 : decode cX12_ruleMeaning 40 = .ok (.iconst 4, 1) := by decide +kernel
theorem dX12_ruleMeaning_41 : decode cX12_ruleMeaning 41 = .ok (.aload_n 0, 1) := by decide +kernel
theorem dX12_ruleMeaning_42 : decode cX12_ruleMeaning 42 = .ok (.getfield 136, 3) := by decide +kernel
theorem dX12_ruleMeaning_45 : decode cX12_ruleMeaning 45 = .ok (.invokevirtual 159, 3) := by decide +kernel
theorem dX12_ruleMeaning_48 : decode cX12_ruleMeaning 48 = .ok (.ireturn, 1) := by decide +kernel
theorem dX12_ruleMeaning_49 : decode cX12_ruleMeaning 49 = .ok (.aload_n 0, 1) := by decide +kernel
theorem dX12_ruleMeaning_50 : decode cX12_ruleMeaning 50 = .ok (.dup, 1) := by decide +kernel
theorem dX12_ruleMeaning_51 : decode cX12_ruleMeaning 51 = .ok (.getfield 136, 3) := by decide +kernel
theorem dX12_ruleMeaning_54 : decode cX12_ruleMeaning 54 = .ok (.iconst 1, 1) := by decide +kernel
theorem dX12_ruleMeaning_55 : decode cX12_ruleMeaning 55 = .ok (.iadd, 1) := by decide +kernel
theorem dX12_ruleMeaning_56 : decode cX12_ruleMeaning 56 = .ok (.putfield 136, 3) := by decide +kernel
theorem dX12_ruleMeaning_59 : decode cX12_ruleMeaning 59 = .ok (.iload_n 1, 1) := by decide +kernel
theorem dX12_ruleMeaning_60 : decode cX12_ruleMeaning 60 = .ok (.bipush 12, 2) := by decide +kernel
theorem dX12_ruleMeaning_62 : decode cX12_ruleMeaning 62 = .ok (.if_icmp .lt 97, 3) := by decide +kernel
theorem dX12_ruleMeaning_65 : decode cX12_ruleMeaning 65 = .ok (.iconst 0, 1) := by decide +kernel
theorem dX12_ruleMeaning_66 : decode cX12_ruleMeaning 66 = .ok (.istore_n 3, 1) := by decide +kernel
theorem dX12_ruleMeaning_67 : decode cX12_ruleMeaning 67 = .ok (.iload_n 3, 1) := by decide +kernel
theorem dX12_ruleMeaning_68 : decode cX12_ruleMeaning 68 = .ok (.iload_n 2, 1) := by decide +kernel
theorem dX12_ruleMeaning_69 : decode cX12_ruleMeaning 69 = .ok (.if_icmp .ge 88, 3) := by decide +kernel
theorem dX12_ruleMeaning_72 : decode cX12_ruleMeaning 72 = .ok (.aload_n 0, 1) := by decide +kernel
theorem dX12_ruleMeaning_73 : decode cX12_ruleMeaning 73 = .ok (.iconst 0, 1) := by decide +kernel
theorem dX12_ruleMeaning_74 : decode cX12_ruleMeaning 74 = .ok (.iconst 0, 1) := by decide +kernel
theorem dX12_ruleMeaning_75 : decode cX12_ruleMeaning 75 = .ok (.iconst 0, 1) := by decide +kernel
theorem dX12_ruleMeaning_76 : decode cX12_ruleMeaning 76 = .ok (.invokevirtual 178, 3) := by decide +kernel
theorem dX12_ruleMeaning_79 : decode cX12_ruleMeaning 79 = .ok (.iconst 0, 1) := by decide +kernel
theorem dX12_ruleMeaning_80 : decode cX12_ruleMeaning 80 = .ok (.istore 4, 2) := by decide +kernel
theorem dX12_ruleMeaning_82 : decode cX12_ruleMeaning 82 = .ok (.iload 4, 2) := by decide +kernel
theorem dX12_ruleMeaning_84 : decode cX12_ruleMeaning 84 = .ok (.iload_n 1, 1) := by decide +kernel
theorem dX12_ruleMeaning_85 : decode cX12_ruleMeaning 85 = .ok (.bipush 12, 2) := by decide +kernel
theorem dX12_ruleMeaning_87 : decode cX12_ruleMeaning 87 = .ok (.if_icmp .ne 10, 3) := by decide +kernel
theorem dX12_ruleMeaning_90 : decode cX12_ruleMeaning 90 = .ok (.aload_n 0, 1) := by decide +kernel
theorem dX12_ruleMeaning_91 : decode cX12_ruleMeaning 91 = .ok (.getfield 163, 3) := by decide +kernel
theorem dX12_ruleMeaning_94 : decode cX12_ruleMeaning 94 = .ok (.goto 7, 3) := by decide +kernel
theorem dX12_ruleMeaning_97 : decode cX12_ruleMeaning 97 = .ok (.aload_n 0, 1) := by decide +kernel
theorem dX12_ruleMeaning_98 : decode cX12_ruleMeaning 98 = .ok (.getfield 166, 3) := by decide +kernel
theorem dX12_ruleMeaning_101 : decode cX12_ruleMeaning 101 = .ok (.if_icmp .ge 40, 3) := by decide +kernel
theorem dX12_ruleMeaning_104 : decode cX12_ruleMeaning 104 = .ok (.aload_n 0, 1) := by decide +kernel
theorem dX12_ruleMeaning_105 : decode cX12_ruleMeaning 105 = .ok (.iload_n 1, 1) := by decide +kernel
theorem dX12_ruleMeaning_106 : decode cX12_ruleMeaning 106 = .ok (.bipush 12, 2) := by decide +kernel
theorem dX12_ruleMeaning_108 : decode cX12_ruleMeaning 108 = .ok (.if_icmp .ne 15, 3) := by decide +kernel
theorem dX12_ruleMeaning_111 : decode cX12_ruleMeaning 111 = .ok (.iload 4, 2) := by decide +kernel
theorem dX12_ruleMeaning_113 : decode cX12_ruleMeaning 113 = .ok (.aload_n 0, 1) := by decide +kernel
theorem dX12_ruleMeaning_114 : decode cX12_ruleMeaning 114 = .ok (.getfield 163, 3) := by decide +kernel
theorem dX12_ruleMeaning_117 : decode cX12_ruleMeaning 117 = .ok (.iload_n 3, 1) := by decide +kernel
theorem dX12_ruleMeaning_118 : decode cX12_ruleMeaning 118 = .ok (.imul, 1) := by decide +kernel
theorem dX12_ruleMeaning_119 : decode cX12_ruleMeaning 119 = .ok (.iadd, 1) := by decide +kernel
theorem dX12_ruleMeaning_120 : decode cX12_ruleMeaning 120 = .ok (.goto 12, 3) := by decide +kernel
theorem dX12_ruleMeaning_123 : decode cX12_ruleMeaning 123 = .ok (.iload_n 3, 1) := by decide +kernel
theorem dX12_ruleMeaning_124 : decode cX12_ruleMeaning 124 = .ok (.aload_n 0, 1) := by decide +kernel
theorem dX12_ruleMeaning_125 : decode cX12_ruleMeaning 125 = .ok (.getfield 163, 3) := by decide +kernel
theorem dX12_ruleMeaning_128 : decode cX12_ruleMeaning 128 = .ok (.iload 4, 2) := by decide +kernel
theorem dX12_ruleMeaning_130 : decode cX12_ruleMeaning 130 = .ok (.imul, 1) := by decide +kernel
theorem dX12_ruleMeaning_131 : decode cX12_ruleMeaning 131 = .ok (.iadd, 1) := by decide +kernel
theorem dX12_ruleMeaning_132 : decode cX12_ruleMeaning 132 = .ok (.invokevirtual 182, 3) := by decide +kernel
theorem dX12_ruleMeaning_135 : decode cX12_ruleMeaning 135 = .ok (.iinc 4 1, 3) := by decide +kernel
theorem dX12_ruleMeaning_138 : decode cX12_ruleMeaning 138 = .ok (.goto (-56), 3) := by decide +kernel
theorem dX12_ruleMeaning_141 : decode cX12_ruleMeaning 141 = .ok (.aload_n 0, 1) := by decide +kernel
theorem dX12_ruleMeaning_142 : decode cX12_ruleMeaning 142 = .ok (.dup, 1) := by decide +kernel
theorem dX12_ruleMeaning_143 : decode cX12_ruleMeaning 143 = .ok (.getfield 172, 3) := by decide +kernel
theorem dX12_ruleMeaning_146 : decode cX12_ruleMeaning 146 = .ok (.iconst 1, 1) := by decide +kernel
theorem dX12_ruleMeaning_147 : decode cX12_ruleMeaning 147 = .ok (.iadd, 1) := by decide +kernel
theorem dX12_ruleMeaning_148 : decode cX12_ruleMeaning 148 = .ok (.putfield 172, 3) := by decide +kernel
theorem dX12_ruleMeaning_151 : decode cX12_ruleMeaning 151 = .ok (.iinc 3 1, 3) := by decide +kernel
theorem dX12_ruleMeaning_154 : decode cX12_ruleMeaning 154 = .ok (.goto (-87), 3) := by decide +kernel
theorem dX12_ruleMeaning_157 : decode cX12_ruleMeaning 157 = .ok (.iconst 1, 1) := by decide +kernel
theorem dX12_ruleMeaning_158 : decode cX12_ruleMeaning 158 = .ok (.ireturn, 1) := by decide +kernel
theorem dX12_ruleMeaning_159 : decode cX12_ruleMeaning 159 = .ok (.aload_n 0, 1) := by decide +kernel
theorem dX12_ruleMeaning_160 : decode cX12_ruleMeaning 160 = .ok (.iload_n 1, 1) := by decide +kernel
theorem dX12_ruleMeaning_161 : decode cX12_ruleMeaning 161 = .ok (.iconst 0, 1) := by decide +kernel
theorem dX12_ruleMeaning_162 : decode cX12_ruleMeaning 162 = .ok (.iconst 0, 1) := by decide +kernel
theorem dX12_ruleMeaning_163 : decode cX12_ruleMeaning 163 = .ok (.invokevirtual 178, 3) := by decide +kernel
theorem dX12_ruleMeaning_166 : decode cX12_ruleMeaning 166 = .ok (.iconst 0, 1) := by decide +kernel
theorem dX12_ruleMeaning_167 : decode cX12_ruleMeaning 167 = .ok (.istore_n 3, 1) := by decide +kernel
theorem dX12_ruleMeaning_168 : decode cX12_ruleMeaning 168 = .ok (.iload_n 3, 1) := by decide +kernel
theorem dX12_ruleMeaning_169 : decode cX12_ruleMeaning 169 = .ok (.getstatic 150, 3) := by decide +kernel
theorem dX12_ruleMeaning_172 : decode cX12_ruleMeaning 172 = .ok (.iload_n 1, 1) := by decide +kernel
theorem dX12_ruleMeaning_173 : decode cX12_ruleMeaning 173 = .ok (.iaload, 1) := by decide +kernel
theorem dX12_ruleMeaning_174 : decode cX12_ruleMeaning 174 = .ok (.if_icmp .ge 87, 3) := by decide +kernel
theorem dX12_ruleMeaning_177 : decode cX12_ruleMeaning 177 = .ok (.aload_n 0, 1) := by decide +kernel
theorem dX12_ruleMeaning_178 : decode cX12_ruleMeaning 178 = .ok (.iload_n 1, 1) := by decide +kernel
theorem dX12_ruleMeaning_179 : decode cX12_ruleMeaning 179 = .ok (.iload_n 3, 1) := by decide +kernel
theorem dX12_ruleMeaning_180 : decode cX12_ruleMeaning 180 = .ok (.aload_n 0, 1) := by decide +kernel
theorem dX12_ruleMeaning_181 : decode cX12_ruleMeaning 181 = .ok (.aload_n 0, 1) := by decide +kernel
theorem dX12_ruleMeaning_182 : decode cX12_ruleMeaning 182 = .ok (.getfield 136, 3) := by decide +kernel
theorem dX12_ruleMeaning_185 : decode cX12_ruleMeaning 185 = .ok (.invokevirtual 156, 3) := by decide +kernel
theorem dX12_ruleMeaning_188 : decode cX12_ruleMeaning 188 = .ok (.invokevirtual 186, 3) := by decide +kernel
theorem dX12_ruleMeaning_191 : decode cX12_ruleMeaning 191 = .ok (.ifCond .ne 13, 3) := by decide +kernel
theorem dX12_ruleMeaning_194 : decode cX12_ruleMeaning 194 = .ok (.aload_n 0, 1) := by decide +kernel
theorem dX12_ruleMeaning_195 : decode cX12_ruleMeaning 195 = .ok (.iconst 2, 1) := by decide +kernel
theorem dX12_ruleMeaning_196 : decode cX12_ruleMeaning 196 = .ok (.aload_n 0, 1) := by decide +kernel
theorem dX12_ruleMeaning_197 : decode cX12_ruleMeaning 197 = .ok (.getfield 136, 3) := by decide +kernel
theorem dX12_ruleMeaning_200 : decode cX12_ruleMeaning 200 = .ok (.invokevirtual 159, 3) := by decide +kernel
theorem dX12_ruleMeaning_203 : decode cX12_ruleMeaning 203 = .ok (.ireturn, 1) := by decide +kernel
theorem dX12_ruleMeaning_204 : decode cX12_ruleMeaning 204 = .ok (.iload_n 3, 1) := by decide +kernel
theorem dX12_ruleMeaning_205 : decode cX12_ruleMeaning 205 = .ok (.ifCond .ne 23, 3) := by decide +kernel
theorem dX12_ruleMeaning_208 : decode cX12_ruleMeaning 208 = .ok (.aload_n 0, 1) := by decide +kernel
theorem dX12_ruleMeaning_209 : decode cX12_ruleMeaning 209 = .ok (.getfield 68, 3) := by decide +kernel
theorem dX12_ruleMeaning_212 : decode cX12_ruleMeaning 212 = .ok (.aload_n 0, 1) := by decide +kernel
theorem dX12_ruleMeaning_213 : decode cX12_ruleMeaning 213 = .ok (.getfield 172, 3) := by decide +kernel
theorem dX12_ruleMeaning_216 : decode cX12_ruleMeaning 216 = .ok (.aload_n 0, 1) := by decide +kernel
theorem dX12_ruleMeaning_217 : decode cX12_ruleMeaning 217 = .ok (.aload_n 0, 1) := by decide +kernel
theorem dX12_ruleMeaning_218 : decode cX12_ruleMeaning 218 = .ok (.getfield 136, 3) := by decide +kernel
theorem dX12_ruleMeaning_221 : decode cX12_ruleMeaning 221 = .ok (.invokevirtual 156, 3) := by decide +kernel
theorem dX12_ruleMeaning_224 : decode cX12_ruleMeaning 224 = .ok (.iastore, 1) := by decide +kernel
theorem dX12_ruleMeaning_225 : decode cX12_ruleMeaning 225 = .ok (.goto 20, 3) := by decide +kernel
theorem dX12_ruleMeaning_228 : decode cX12_ruleMeaning 228 = .ok (.aload_n 0, 1) := by decide +kernel
theorem dX12_ruleMeaning_229 : decode cX12_ruleMeaning 229 = .ok (.getfield 71, 3) := by decide +kernel
theorem dX12_ruleMeaning_232 : decode cX12_ruleMeaning 232 = .ok (.aload_n 0, 1) := by decide +kernel
theorem dX12_ruleMeaning_233 : decode cX12_ruleMeaning 233 = .ok (.getfield 172, 3) := by decide +kernel
theorem dX12_ruleMeaning_236 : decode cX12_ruleMeaning 236 = .ok (.aload_n 0, 1) := by decide +kernel
theorem dX12_ruleMeaning_237 : decode cX12_ruleMeaning 237 = .ok (.aload_n 0, 1) := by decide +kernel
theorem dX12_ruleMeaning_238 : decode cX12_ruleMeaning 238 = .ok (.getfield 136, 3) := by decide +kernel
theorem dX12_ruleMeaning_241 : decode cX12_ruleMeaning 241 = .ok (.invokevirtual 156, 3) := by decide +kernel
theorem dX12_ruleMeaning_244 : decode cX12_ruleMeaning 244 = .ok (.iastore, 1) := by decide +kernel
theorem dX12_ruleMeaning_245 : decode cX12_ruleMeaning 245 = .ok (.aload_n 0, 1) := by decide +kernel
theorem dX12_ruleMeaning_246 : decode cX12_ruleMeaning 246 = .ok (.dup, 1) := by decide +kernel
theorem dX12_ruleMeaning_247 : decode cX12_ruleMeaning 247 = .ok (.getfield 136, 3) := by decide +kernel
theorem dX12_ruleMeaning_250 : decode cX12_ruleMeaning 250 = .ok (.iconst 1, 1) := by decide +kernel
theorem dX12_ruleMeaning_251 : decode cX12_ruleMeaning 251 = .ok (.iadd, 1) := by decide +kernel
theorem dX12_ruleMeaning_252 : decode cX12_ruleMeaning 252 = .ok (.putfield 136, 3) := by decide +kernel
theorem dX12_ruleMeaning_255 : decode cX12_ruleMeaning 255 = .ok (.iinc 3 1, 3) := by decide +kernel
theorem dX12_ruleMeaning_258 : decode cX12_ruleMeaning 258 = .ok (.goto (-90), 3) := by decide +kernel
theorem dX12_ruleMeaning_261 : decode cX12_ruleMeaning 261 = .ok (.aload_n 0, 1) := by decide +kernel
theorem dX12_ruleMeaning_262 : decode cX12_ruleMeaning 262 = .ok (.getfield 17, 3) := by decide +kernel
theorem dX12_ruleMeaning_265 : decode cX12_ruleMeaning 265 = .ok (.aload_n 0, 1) := by decide +kernel
theorem dX12_ruleMeaning_266 : decode cX12_ruleMeaning 266 = .ok (.getfield 136, 3) := by decide +kernel
theorem dX12_ruleMeaning_269 : decode cX12_ruleMeaning 269 = .ok (.iaload, 1) := by decide +kernel
theorem dX12_ruleMeaning_270 : decode cX12_ruleMeaning 270 = .ok (.iconst 1, 1) := by decide +kernel
theorem dX12_ruleMeaning_271 : decode cX12_ruleMeaning 271 = .ok (.if_icmp .ne 186, 3) := by decide +kernel
theorem dX12_ruleMeaning_274 : decode cX12_ruleMeaning 274 = .ok (.aload_n 0, 1) := by decide +kernel
theorem dX12_ruleMeaning_275 : decode cX12_ruleMeaning 275 = .ok (.getfield 9, 3) := by decide +kernel
theorem dX12_ruleMeaning_278 : decode cX12_ruleMeaning 278 = .ok (.aload_n 0, 1) := by decide +kernel
theorem dX12_ruleMeaning_279 : decode cX12_ruleMeaning 279 = .ok (.getfield 20, 3) := by decide +kernel
theorem dX12_ruleMeaning_282 : decode cX12_ruleMeaning 282 = .ok (.aload_n 0, 1) := by decide +kernel
theorem dX12_ruleMeaning_283 : decode cX12_ruleMeaning 283 = .ok (.getfield 136, 3) := by decide +kernel
theorem dX12_ruleMeaning_286 : decode cX12_ruleMeaning 286 = .ok (.iaload, 1) := by decide +kernel
theorem dX12_ruleMeaning_287 : decode cX12_ruleMeaning 287 = .ok (.iaload, 1) := by decide +kernel
theorem dX12_ruleMeaning_288 : decode cX12_ruleMeaning 288 = .ok (.bipush 97, 2) := by decide +kernel
theorem dX12_ruleMeaning_290 : decode cX12_ruleMeaning 290 = .ok (.isub, 1) := by decide +kernel
theorem dX12_ruleMeaning_291 : decode cX12_ruleMeaning 291 = .ok (.istore_n 3, 1) := by decide +kernel
theorem dX12_ruleMeaning_292 : decode cX12_ruleMeaning 292 = .ok (.aload_n 0, 1) := by decide +kernel
theorem dX12_ruleMeaning_293 : decode cX12_ruleMeaning 293 = .ok (.getfield 9, 3) := by decide +kernel
theorem dX12_ruleMeaning_296 : decode cX12_ruleMeaning 296 = .ok (.aload_n 0, 1) := by decide +kernel
theorem dX12_ruleMeaning_297 : decode cX12_ruleMeaning 297 = .ok (.getfield 20, 3) := by decide +kernel
theorem dX12_ruleMeaning_300 : decode cX12_ruleMeaning 300 = .ok (.aload_n 0, 1) := by decide +kernel
theorem dX12_ruleMeaning_301 : decode cX12_ruleMeaning 301 = .ok (.getfield 136, 3) := by decide +kernel
theorem dX12_ruleMeaning_304 : decode cX12_ruleMeaning 304 = .ok (.iaload, 1) := by decide +kernel
theorem dX12_ruleMeaning_305 : decode cX12_ruleMeaning 305 = .ok (.iconst 1, 1) := by decide +kernel
theorem dX12_ruleMeaning_306 : decode cX12_ruleMeaning 306 = .ok (.iadd, 1) := by decide +kernel
theorem dX12_ruleMeaning_307 : decode cX12_ruleMeaning 307 = .ok (.iaload, 1) := by decide +kernel
theorem dX12_ruleMeaning_308 : decode cX12_ruleMeaning 308 = .ok (.bipush 49, 2) := by decide +kernel
theorem dX12_ruleMeaning_310 : decode cX12_ruleMeaning 310 = .ok (.isub, 1) := by decide +kernel
theorem dX12_ruleMeaning_311 : decode cX12_ruleMeaning 311 = .ok (.istore 4, 2) := by decide +kernel
theorem dX12_ruleMeaning_313 : decode cX12_ruleMeaning 313 = .ok (.iload_n 3, 1) := by decide +kernel
theorem dX12_ruleMeaning_314 : decode cX12_ruleMeaning 314 = .ok (.iconst 0, 1) := by decide +kernel
theorem dX12_ruleMeaning_315 : decode cX12_ruleMeaning 315 = .ok (.aload_n 0, 1) := by decide +kernel
theorem dX12_ruleMeaning_316 : decode cX12_ruleMeaning 316 = .ok (.getfield 163, 3) := by decide +kernel
theorem dX12_ruleMeaning_319 : decode cX12_ruleMeaning 319 = .ok (.iconst 1, 1) := by decide +kernel
theorem dX12_ruleMeaning_320 : decode cX12_ruleMeaning 320 = .ok (.isub, 1) := by decide +kernel
theorem dX12_ruleMeaning_321 : decode cX12_ruleMeaning 321 = .ok (.invokestatic 96, 3) := by decide +kernel
theorem dX12_ruleMeaning_324 : decode cX12_ruleMeaning 324 = .ok (.ifCond .eq 18, 3) := by decide +kernel
theorem dX12_ruleMeaning_327 : decode cX12_ruleMeaning 327 = .ok (.iload 4, 2) := by decide +kernel
theorem dX12_ruleMeaning_329 : decode cX12_ruleMeaning 329 = .ok (.iconst 0, 1) := by decide +kernel
theorem dX12_ruleMeaning_330 : decode cX12_ruleMeaning 330 = .ok (.aload_n 0, 1) := by decide +kernel
theorem dX12_ruleMeaning_331 : decode cX12_ruleMeaning 331 = .ok (.getfield 166, 3) := by decide +kernel
theorem dX12_ruleMeaning_334 : decode cX12_ruleMeaning 334 = .ok (.iconst 1, 1) := by decide +kernel
theorem dX12_ruleMeaning_335 : decode cX12_ruleMeaning 335 = .ok (.isub, 1) := by decide +kernel
theorem dX12_ruleMeaning_336 : decode cX12_ruleMeaning 336 = .ok (.invokestatic 96, 3) := by decide +kernel
theorem dX12_ruleMeaning_339 : decode cX12_ruleMeaning 339 = .ok (.ifCond .ne 13, 3) := by decide +kernel
theorem dX12_ruleMeaning_342 : decode cX12_ruleMeaning 342 = .ok (.aload_n 0, 1) := by decide +kernel
theorem dX12_ruleMeaning_343 : decode cX12_ruleMeaning 343 = .ok (.iconst 2, 1) := by decide +kernel
theorem dX12_ruleMeaning_344 : decode cX12_ruleMeaning 344 = .ok (.aload_n 0, 1) := by decide +kernel
theorem dX12_ruleMeaning_345 : decode cX12_ruleMeaning 345 = .ok (.getfield 136, 3) := by decide +kernel
theorem dX12_ruleMeaning_348 : decode cX12_ruleMeaning 348 = .ok (.invokevirtual 159, 3) := by decide +kernel
theorem dX12_ruleMeaning_351 : decode cX12_ruleMeaning 351 = .ok (.ireturn, 1) := by decide +kernel
theorem dX12_ruleMeaning_352 : decode cX12_ruleMeaning 352 = .ok (.iload_n 3, 1) := by decide +kernel
theorem dX12_ruleMeaning_353 : decode cX12_ruleMeaning 353 = .ok (.aload_n 0, 1) := by decide +kernel
theorem dX12_ruleMeaning_354 : decode cX12_ruleMeaning 354 = .ok (.getfield 163, 3) := by decide +kernel
theorem dX12_ruleMeaning_357 : decode cX12_ruleMeaning 357 = .ok (.iload 4, 2) := by decide +kernel
theorem dX12_ruleMeaning_359 : decode cX12_ruleMeaning 359 = .ok (.imul, 1) := by decide +kernel
theorem dX12_ruleMeaning_360 : decode cX12_ruleMeaning 360 = .ok (.iadd, 1) := by decide +kernel
theorem dX12_ruleMeaning_361 : decode cX12_ruleMeaning 361 = .ok (.istore 5, 2) := by decide +kernel
theorem dX12_ruleMeaning_363 : decode cX12_ruleMeaning 363 = .ok (.iconst 0, 1) := by decide +kernel
theorem dX12_ruleMeaning_364 : decode cX12_ruleMeaning 364 = .ok (.istore 6, 2) := by decide +kernel
theorem dX12_ruleMeaning_366 : decode cX12_ruleMeaning 366 = .ok (.iload 6, 2) := by decide +kernel
theorem dX12_ruleMeaning_368 : decode cX12_ruleMeaning 368 = .ok (.aload_n 0, 1) := by decide +kernel
theorem dX12_ruleMeaning_369 : decode cX12_ruleMeaning 369 = .ok (.getfield 74, 3) := by decide +kernel
theorem dX12_ruleMeaning_372 : decode cX12_ruleMeaning 372 = .ok (.aload_n 0, 1) := by decide +kernel
theorem dX12_ruleMeaning_373 : decode cX12_ruleMeaning 373 = .ok (.getfield 172, 3) := by decide +kernel
theorem dX12_ruleMeaning_376 : decode cX12_ruleMeaning 376 = .ok (.iaload, 1) := by decide +kernel
theorem dX12_ruleMeaning_377 : decode cX12_ruleMeaning 377 = .ok (.if_icmp .ge 38, 3) := by decide +kernel
theorem dX12_ruleMeaning_380 : decode cX12_ruleMeaning 380 = .ok (.aload_n 0, 1) := by decide +kernel
theorem dX12_ruleMeaning_381 : decode cX12_ruleMeaning 381 = .ok (.getfield 77, 3) := by decide +kernel
theorem dX12_ruleMeaning_384 : decode cX12_ruleMeaning 384 = .ok (.iconst 5, 1) := by decide +kernel
theorem dX12_ruleMeaning_385 : decode cX12_ruleMeaning 385 = .ok (.aload_n 0, 1) := by decide +kernel
theorem dX12_ruleMeaning_386 : decode cX12_ruleMeaning 386 = .ok (.getfield 172, 3) := by decide +kernel
theorem dX12_ruleMeaning_389 : decode cX12_ruleMeaning 389 = .ok (.imul, 1) := by decide +kernel
theorem dX12_ruleMeaning_390 : decode cX12_ruleMeaning 390 = .ok (.iload 6, 2) := by decide +kernel
theorem dX12_ruleMeaning_392 : decode cX12_ruleMeaning 392 = .ok (.iadd, 1) := by decide +kernel
theorem dX12_ruleMeaning_393 : decode cX12_ruleMeaning 393 = .ok (.iaload, 1) := by decide +kernel
theorem dX12_ruleMeaning_394 : decode cX12_ruleMeaning 394 = .ok (.iload 5, 2) := by decide +kernel
theorem dX12_ruleMeaning_396 : decode cX12_ruleMeaning 396 = .ok (.if_icmp .ne 13, 3) := by decide +kernel
theorem dX12_ruleMeaning_399 : decode cX12_ruleMeaning 399 = .ok (.aload_n 0, 1) := by decide +kernel
theorem dX12_ruleMeaning_400 : decode cX12_ruleMeaning 400 = .ok (.iconst 3, 1) := by decide +kernel
theorem dX12_ruleMeaning_401 : decode cX12_ruleMeaning 401 = .ok (.aload_n 0, 1) := by decide +kernel
theorem dX12_ruleMeaning_402 : decode cX12_ruleMeaning 402 = .ok (.getfield 136, 3) := by decide +kernel
theorem dX12_ruleMeaning_405 : decode cX12_ruleMeaning 405 = .ok (.invokevirtual 159, 3) := by decide +kernel
theorem dX12_ruleMeaning_408 : decode cX12_ruleMeaning 408 = .ok (.ireturn, 1) := by decide +kernel
theorem dX12_ruleMeaning_409 : decode cX12_ruleMeaning 409 = .ok (.iinc 6 1, 3) := by decide +kernel
theorem dX12_ruleMeaning_412 : decode cX12_ruleMeaning 412 = .ok (.goto (-46), 3) := by decide +kernel
theorem dX12_ruleMeaning_415 : decode cX12_ruleMeaning 415 = .ok (.aload_n 0, 1) := by decide +kernel
theorem dX12_ruleMeaning_416 : decode cX12_ruleMeaning 416 = .ok (.getfield 74, 3) := by decide +kernel
theorem dX12_ruleMeaning_419 : decode cX12_ruleMeaning 419 = .ok (.aload_n 0, 1) := by decide +kernel
theorem dX12_ruleMeaning_420 : decode cX12_ruleMeaning 420 = .ok (.getfield 172, 3) := by decide +kernel
theorem dX12_ruleMeaning_423 : decode cX12_ruleMeaning 423 = .ok (.iaload, 1) := by decide +kernel
theorem dX12_ruleMeaning_424 : decode cX12_ruleMeaning 424 = .ok (.iconst 5, 1) := by decide +kernel
theorem dX12_ruleMeaning_425 : decode cX12_ruleMeaning 425 = .ok (.if_icmp .ne 13, 3) := by decide +kernel
theorem dX12_ruleMeaning_428 : decode cX12_ruleMeaning 428 = .ok (.aload_n 0, 1) := by decide +kernel
theorem dX12_ruleMeaning_429 : decode cX12_ruleMeaning 429 = .ok (.iconst 4, 1) := by decide +kernel
theorem dX12_ruleMeaning_430 : decode cX12_ruleMeaning 430 = .ok (.aload_n 0, 1) := by decide +kernel
theorem dX12_ruleMeaning_431 : decode cX12_ruleMeaning 431 = .ok (.getfield 136, 3) := by decide +kernel
theorem dX12_ruleMeaning_434 : decode cX12_ruleMeaning 434 = .ok (.invokevirtual 159, 3) := by decide +kernel
theorem dX12_ruleMeaning_437 : decode cX12_ruleMeaning 437 = .ok (.ireturn, 1) := by decide +kernel
theorem dX12_ruleMeaning_438 : decode cX12_ruleMeaning 438 = .ok (.aload_n 0, 1) := by decide +kernel
theorem dX12_ruleMeaning_439 : decode cX12_ruleMeaning 439 = .ok (.iload 5, 2) := by decide +kernel
theorem dX12_ruleMeaning_441 : decode cX12_ruleMeaning 441 = .ok (.invokevirtual 182, 3) := by decide +kernel
theorem dX12_ruleMeaning_444 : decode cX12_ruleMeaning 444 = .ok (.aload_n 0, 1) := by decide +kernel
theorem dX12_ruleMeaning_445 : decode cX12_ruleMeaning 445 = .ok (.dup, 1) := by decide +kernel
theorem dX12_ruleMeaning_446 : decode cX12_ruleMeaning 446 = .ok (.getfield 136, 3) := by decide +kernel
theorem dX12_ruleMeaning_449 : decode cX12_ruleMeaning 449 = .ok (.iconst 1, 1) := by decide +kernel
theorem dX12_ruleMeaning_450 : decode cX12_ruleMeaning 450 = .ok (.iadd, 1) := by decide +kernel
theorem dX12_ruleMeaning_451 : decode cX12_ruleMeaning 451 = .ok (.putfield 136, 3) := by decide +kernel
theorem dX12_ruleMeaning_454 : decode cX12_ruleMeaning 454 = .ok (.goto (-193), 3) := by decide +kernel
theorem dX12_ruleMeaning_457 : decode cX12_ruleMeaning 457 = .ok (.iload_n 1, 1) := by decide +kernel
theorem dX12_ruleMeaning_458 : decode cX12_ruleMeaning 458 = .ok (.bipush 9, 2) := by decide +kernel
theorem dX12_ruleMeaning_460 : decode cX12_ruleMeaning 460 = .ok (.if_icmp .ne 59, 3) := by decide +kernel
theorem dX12_ruleMeaning_463 : decode cX12_ruleMeaning 463 = .ok (.aload_n 0, 1) := by decide +kernel
theorem dX12_ruleMeaning_464 : decode cX12_ruleMeaning 464 = .ok (.aload_n 0, 1) := by decide +kernel
theorem dX12_ruleMeaning_465 : decode cX12_ruleMeaning 465 = .ok (.getfield 136, 3) := by decide +kernel
theorem dX12_ruleMeaning_468 : decode cX12_ruleMeaning 468 = .ok (.invokevirtual 156, 3) := by decide +kernel
theorem dX12_ruleMeaning_471 : decode cX12_ruleMeaning 471 = .ok (.iconst 1, 1) := by decide +kernel
theorem dX12_ruleMeaning_472 : decode cX12_ruleMeaning 472 = .ok (.aload_n 0, 1) := by decide +kernel
theorem dX12_ruleMeaning_473 : decode cX12_ruleMeaning 473 = .ok (.getfield 169, 3) := by decide +kernel
theorem dX12_ruleMeaning_476 : decode cX12_ruleMeaning 476 = .ok (.invokestatic 96, 3) := by decide +kernel
theorem dX12_ruleMeaning_479 : decode cX12_ruleMeaning 479 = .ok (.ifCond .ne 13, 3) := by decide +kernel
theorem dX12_ruleMeaning_482 : decode cX12_ruleMeaning 482 = .ok (.aload_n 0, 1) := by decide +kernel
theorem dX12_ruleMeaning_483 : decode cX12_ruleMeaning 483 = .ok (.iconst 2, 1) := by decide +kernel
theorem dX12_ruleMeaning_484 : decode cX12_ruleMeaning 484 = .ok (.aload_n 0, 1) := by decide +kernel
theorem dX12_ruleMeaning_485 : decode cX12_ruleMeaning 485 = .ok (.getfield 136, 3) := by decide +kernel
theorem dX12_ruleMeaning_488 : decode cX12_ruleMeaning 488 = .ok (.invokevirtual 159, 3) := by decide +kernel
theorem dX12_ruleMeaning_491 : decode cX12_ruleMeaning 491 = .ok (.ireturn, 1) := by decide +kernel
theorem dX12_ruleMeaning_492 : decode cX12_ruleMeaning 492 = .ok (.aload_n 0, 1) := by decide +kernel
theorem dX12_ruleMeaning_493 : decode cX12_ruleMeaning 493 = .ok (.getfield 68, 3) := by decide +kernel
theorem dX12_ruleMeaning_496 : decode cX12_ruleMeaning 496 = .ok (.aload_n 0, 1) := by decide +kernel
theorem dX12_ruleMeaning_497 : decode cX12_ruleMeaning 497 = .ok (.getfield 172, 3) := by decide +kernel
theorem dX12_ruleMeaning_500 : decode cX12_ruleMeaning 500 = .ok (.aload_n 0, 1) := by decide +kernel
theorem dX12_ruleMeaning_501 : decode cX12_ruleMeaning 501 = .ok (.aload_n 0, 1) := by decide +kernel
theorem dX12_ruleMeaning_502 : decode cX12_ruleMeaning 502 = .ok (.getfield 136, 3) := by decide +kernel
theorem dX12_ruleMeaning_505 : decode cX12_ruleMeaning 505 = .ok (.invokevirtual 156, 3) := by decide +kernel
theorem dX12_ruleMeaning_508 : decode cX12_ruleMeaning 508 = .ok (.iastore, 1) := by decide +kernel
theorem dX12_ruleMeaning_509 : decode cX12_ruleMeaning 509 = .ok (.aload_n 0, 1) := by decide +kernel
theorem dX12_ruleMeaning_510 : decode cX12_ruleMeaning 510 = .ok (.dup, 1) := by decide +kernel
theorem dX12_ruleMeaning_511 : decode cX12_ruleMeaning 511 = .ok (.getfield 136, 3) := by decide +kernel
theorem dX12_ruleMeaning_514 : decode cX12_ruleMeaning 514 = .ok (.iconst 1, 1) := by decide +kernel
theorem dX12_ruleMeaning_515 : decode cX12_ruleMeaning 515 = .ok (.iadd, 1) := by decide +kernel
theorem dX12_ruleMeaning_516 : decode cX12_ruleMeaning 516 = .ok (.putfield 136, 3) := by decide +kernel
theorem dX12_ruleMeaning_519 : decode cX12_ruleMeaning 519 = .ok (.aload_n 0, 1) := by decide +kernel
theorem dX12_ruleMeaning_520 : decode cX12_ruleMeaning 520 = .ok (.dup, 1) := by decide +kernel
theorem dX12_ruleMeaning_521 : decode cX12_ruleMeaning 521 = .ok (.getfield 172, 3) := by decide +kernel
theorem dX12_ruleMeaning_524 : decode cX12_ruleMeaning 524 = .ok (.iconst 1, 1) := by decide +kernel
theorem dX12_ruleMeaning_525 : decode cX12_ruleMeaning 525 = .ok (.iadd, 1) := by decide +kernel
theorem dX12_ruleMeaning_526 : decode cX12_ruleMeaning 526 = .ok (.putfield 172, 3) := by decide +kernel
theorem dX12_ruleMeaning_529 : decode cX12_ruleMeaning 529 = .ok (.iconst 1, 1) := by decide +kernel
theorem dX12_ruleMeaning_530 : decode cX12_ruleMeaning 530 = .ok (.ireturn, 1) := by decide +kernel
theorem dX12_isNumber_0 : decode cX12_isNumber 0 = .ok (.iload_n 1, 1) := by decide +kernel
theorem dX12_isNumber_1 : decode cX12_isNumber 1 = .ok (.bipush 8, 2) := by decide +kernel
theorem dX12_isNumber_3 : decode cX12_isNumber 3 = .ok (.if_icmp .ne 26, 3) := by decide +kernel
theorem dX12_isNumber_6 : decode cX12_isNumber 6 = .ok (.iload_n 2, 1) := by decide +kernel
theorem dX12_isNumber_7 : decode cX12_isNumber 7 = .ok (.ifCond .ne 15, 3) := by decide +kernel
theorem dX12_isNumber_10 : decode cX12_isNumber 10 = .ok (.iload_n 3, 1) := by decide +kernel
theorem dX12_isNumber_11 : decode cX12_isNumber 11 = .ok (.iconst 1, 1) := by decide +kernel
theorem dX12_isNumber_12 : decode cX12_isNumber 12 = .ok (.aload_n 0, 1) := by decide +kernel
theorem dX12_isNumber_13 : decode cX12_isNumber 13 = .ok (.getfield 169, 3) := by decide +kernel
theorem dX12_isNumber_16 : decode cX12_isNumber 16 = .ok (.invokestatic 96, 3) := by decide +kernel
theorem dX12_isNumber_19 : decode cX12_isNumber 19 = .ok (.goto 9, 3) := by decide +kernel
theorem dX12_isNumber_22 : decode cX12_isNumber 22 = .ok (.iload_n 3, 1) := by decide +kernel
theorem dX12_isNumber_23 : decode cX12_isNumber 23 = .ok (.iconst 0, 1) := by decide +kernel
theorem dX12_isNumber_24 : decode cX12_isNumber 24 = .ok (.iconst 5, 1) := by decide +kernel
theorem dX12_isNumber_25 : decode cX12_isNumber 25 = .ok (.invokestatic 96, 3) := by decide +kernel
theorem dX12_isNumber_28 : decode cX12_isNumber 28 = .ok (.ireturn, 1) := by decide +kernel
theorem dX12_isNumber_29 : decode cX12_isNumber 29 = .ok (.iload_n 1, 1) := by decide +kernel
theorem dX12_isNumber_30 : decode cX12_isNumber 30 = .ok (.iconst 5, 1) := by decide +kernel
theorem dX12_isNumber_31 : decode cX12_isNumber 31 = .ok (.if_icmp .ne 12, 3) := by decide +kernel
theorem dX12_isNumber_34 : decode cX12_isNumber 34 = .ok (.iload_n 3, 1) := by decide +kernel
theorem dX12_isNumber_35 : decode cX12_isNumber 35 = .ok (.iconst 1, 1) := by decide +kernel
theorem dX12_isNumber_36 : decode cX12_isNumber 36 = .ok (.iconst 5, 1) := by decide +kernel
theorem dX12_isNumber_37 : decode cX12_isNumber 37 = .ok (.invokestatic 96, 3) := by decide +kernel
theorem dX12_isNumber_40 : decode cX12_isNumber 40 = .ok (.goto 23, 3) := by decide +kernel
theorem dX12_isNumber_43 : decode cX12_isNumber 43 = .ok (.iload_n 1, 1) := by decide +kernel
theorem dX12_isNumber_44 : decode cX12_isNumber 44 = .ok (.bipush 10, 2) := by decide +kernel
theorem dX12_isNumber_46 : decode cX12_isNumber 46 = .ok (.if_icmp .ne 12, 3) := by decide +kernel
theorem dX12_isNumber_49 : decode cX12_isNumber 49 = .ok (.iload_n 3, 1) := by decide +kernel
theorem dX12_isNumber_50 : decode cX12_isNumber 50 = .ok (.iconst 1, 1) := by decide +kernel
theorem dX12_isNumber_51 : decode cX12_isNumber 51 = .ok (.iconst 4, 1) := by decide +kernel
theorem dX12_isNumber_52 : decode cX12_isNumber 52 = .ok (.invokestatic 96, 3) := by decide +kernel
theorem dX12_isNumber_55 : decode cX12_isNumber 55 = .ok (.ifCond .eq 7, 3) := by decide +kernel
theorem dX12_isNumber_58 : decode cX12_isNumber 58 = .ok (.iconst 1, 1) := by decide +kernel
theorem dX12_isNumber_59 : decode cX12_isNumber 59 = .ok (.goto 4, 3) := by decide +kernel
theorem dX12_isNumber_62 : decode cX12_isNumber 62 = .ok (.iconst 0, 1) := by decide +kernel
theorem dX12_isNumber_63 : decode cX12_isNumber 63 = .ok (.ireturn, 1) := by decide +kernel
theorem dX12_compile_0 : decode cX12_compile 0 = .ok (.aload_n 0, 1) := by decide +kernel
theorem dX12_compile_1 : decode cX12_compile 1 = .ok (.iconst 0, 1) := by decide +kernel
theorem dX12_compile_2 : decode cX12_compile 2 = .ok (.putfield 83, 3) := by decide +kernel
theorem dX12_compile_5 : decode cX12_compile 5 = .ok (.aload_n 0, 1) := by decide +kernel
theorem dX12_compile_6 : decode cX12_compile 6 = .ok (.iconst 0, 1) := by decide +kernel
theorem dX12_compile_7 : decode cX12_compile 7 = .ok (.putfield 153, 3) := by decide +kernel
theorem dX12_compile_10 : decode cX12_compile 10 = .ok (.aload_n 0, 1) := by decide +kernel
theorem dX12_compile_11 : decode cX12_compile 11 = .ok (.iconst (-1), 1) := by decide +kernel
theorem dX12_compile_12 : decode cX12_compile 12 = .ok (.putfield 13, 3) := by decide +kernel
theorem dX12_compile_15 : decode cX12_compile 15 = .ok (.aload_n 0, 1) := by decide +kernel
theorem dX12_compile_16 : decode cX12_compile 16 = .ok (.invokevirtual 189, 3) := by decide +kernel
theorem dX12_compile_19 : decode cX12_compile 19 = .ok (.aload_n 0, 1) := by decide +kernel
theorem dX12_compile_20 : decode cX12_compile 20 = .ok (.invokevirtual 192, 3) := by decide +kernel
theorem dX12_compile_23 : decode cX12_compile 23 = .ok (.ifCond .ne 16, 3) := by decide +kernel
theorem dX12_compile_26 : decode cX12_compile 26 = .ok (.aload_n 0, 1) := by decide +kernel
theorem dX12_compile_27 : decode cX12_compile 27 = .ok (.iconst 1, 1) := by decide +kernel
theorem dX12_compile_28 : decode cX12_compile 28 = .ok (.aload_n 0, 1) := by decide +kernel
theorem dX12_compile_29 : decode cX12_compile 29 = .ok (.getfield 136, 3) := by decide +kernel
theorem dX12_compile_32 : decode cX12_compile 32 = .ok (.invokevirtual 159, 3) := by decide +kernel
theorem dX12_compile_35 : decode cX12_compile 35 = .ok (.pop, 1) := by decide +kernel
theorem dX12_compile_36 : decode cX12_compile 36 = .ok (.goto 14, 3) := by decide +kernel
theorem dX12_compile_39 : decode cX12_compile 39 = .ok (.aload_n 0, 1) := by decide +kernel
theorem dX12_compile_40 : decode cX12_compile 40 = .ok (.invokevirtual 195, 3) := by decide +kernel
theorem dX12_compile_43 : decode cX12_compile 43 = .ok (.ifCond .eq 7, 3) := by decide +kernel
theorem dX12_compile_46 : decode cX12_compile 46 = .ok (.aload_n 0, 1) := by decide +kernel
theorem dX12_compile_47 : decode cX12_compile 47 = .ok (.invokevirtual 198, 3) := by decide +kernel
theorem dX12_compile_50 : decode cX12_compile 50 = .ok (.aload_n 0, 1) := by decide +kernel
theorem dX12_compile_51 : decode cX12_compile 51 = .ok (.iconst 0, 1) := by decide +kernel
theorem dX12_compile_52 : decode cX12_compile 52 = .ok (.putfield 103, 3) := by decide +kernel
theorem dX12_compile_55 : decode cX12_compile 55 = .ok (.aload_n 0, 1) := by decide +kernel
theorem dX12_compile_56 : decode cX12_compile 56 = .ok (.getfield 153, 3) := by decide +kernel
theorem dX12_compile_59 : decode cX12_compile 59 = .ok (.ireturn, 1) := by decide +kernel
theorem dX12_begin_0 : decode cX12_begin 0 = .ok (.aload_n 0, 1) := by decide +kernel
theorem dX12_begin_1 : decode cX12_begin 1 = .ok (.aload_n 0, 1) := by decide +kernel
theorem dX12_begin_2 : decode cX12_begin 2 = .ok (.getfield 163, 3) := by decide +kernel
theorem dX12_begin_5 : decode cX12_begin 5 = .ok (.putfield 86, 3) := by decide +kernel
theorem dX12_begin_8 : decode cX12_begin 8 = .ok (.aload_n 0, 1) := by decide +kernel
theorem dX12_begin_9 : decode cX12_begin 9 = .ok (.aload_n 0, 1) := by decide +kernel
theorem dX12_begin_10 : decode cX12_begin 10 = .ok (.getfield 166, 3) := by decide +kernel
theorem dX12_begin_13 : decode cX12_begin 13 = .ok (.putfield 89, 3) := by decide +kernel
theorem dX12_begin_16 : decode cX12_begin 16 = .ok (.aload_n 0, 1) := by decide +kernel
theorem dX12_begin_17 : decode cX12_begin 17 = .ok (.aload_n 0, 1) := by decide +kernel
theorem dX12_begin_18 : decode cX12_begin 18 = .ok (.getfield 169, 3) := by decide +kernel
theorem dX12_begin_21 : decode cX12_begin 21 = .ok (.putfield 201, 3) := by decide +kernel
theorem dX12_begin_24 : decode cX12_begin 24 = .ok (.aload_n 0, 1) := by decide +kernel
theorem dX12_begin_25 : decode cX12_begin 25 = .ok (.aload_n 0, 1) := by decide +kernel
theorem dX12_begin_26 : decode cX12_begin 26 = .ok (.getfield 172, 3) := by decide +kernel
theorem dX12_begin_29 : decode cX12_begin 29 = .ok (.putfield 100, 3) := by decide +kernel
theorem dX12_begin_32 : decode cX12_begin 32 = .ok (.iconst 0, 1) := by decide +kernel
theorem dX12_begin_33 : decode cX12_begin 33 = .ok (.istore_n 1, 1) := by decide +kernel
theorem dX12_begin_34 : decode cX12_begin 34 = .ok (.iload_n 1, 1) := by decide +kernel
theorem dX12_begin_35 : decode cX12_begin 35 = .ok (.aload_n 0, 1) := by decide +kernel
theorem dX12_begin_36 : decode cX12_begin 36 = .ok (.getfield 172, 3) := by decide +kernel
theorem dX12_begin_39 : decode cX12_begin 39 = .ok (.if_icmp .ge 35, 3) := by decide +kernel
theorem dX12_begin_42 : decode cX12_begin 42 = .ok (.aload_n 0, 1) := by decide +kernel
theorem dX12_begin_43 : decode cX12_begin 43 = .ok (.aload_n 0, 1) := by decide +kernel
theorem dX12_begin_44 : decode cX12_begin 44 = .ok (.getfield 65, 3) := by decide +kernel
theorem dX12_begin_47 : decode cX12_begin 47 = .ok (.aload_n 0, 1) := by decide +kernel
theorem dX12_begin_48 : decode cX12_begin 48 = .ok (.getfield 68, 3) := by decide +kernel
theorem dX12_begin_51 : decode cX12_begin 51 = .ok (.aload_n 0, 1) := by decide +kernel
theorem dX12_begin_52 : decode cX12_begin 52 = .ok (.getfield 71, 3) := by decide +kernel
theorem dX12_begin_55 : decode cX12_begin 55 = .ok (.aload_n 0, 1) := by decide +kernel
theorem dX12_begin_56 : decode cX12_begin 56 = .ok (.getfield 74, 3) := by decide +kernel
theorem dX12_begin_59 : decode cX12_begin 59 = .ok (.aload_n 0, 1) := by decide +kernel
theorem dX12_begin_60 : decode cX12_begin 60 = .ok (.getfield 77, 3) := by decide +kernel
theorem dX12_begin_63 : decode cX12_begin 63 = .ok (.iload_n 1, 1) := by decide +kernel
theorem dX12_begin_64 : decode cX12_begin 64 = .ok (.iload_n 1, 1) := by decide +kernel
theorem dX12_begin_65 : decode cX12_begin 65 = .ok (.invokevirtual 204, 3) := by decide +kernel
theorem dX12_begin_68 : decode cX12_begin 68 = .ok (.iinc 1 1, 3) := by decide +kernel
theorem dX12_begin_71 : decode cX12_begin 71 = .ok (.goto (-37), 3) := by decide +kernel
theorem dX12_begin_74 : decode cX12_begin 74 = .ok (.iconst 0, 1) := by decide +kernel
theorem dX12_begin_75 : decode cX12_begin 75 = .ok (.istore_n 1, 1) := by decide +kernel
theorem dX12_begin_76 : decode cX12_begin 76 = .ok (.iload_n 1, 1) := by decide +kernel
theorem dX12_begin_77 : decode cX12_begin 77 = .ok (.bipush 25, 2) := by decide +kernel
theorem dX12_begin_79 : decode cX12_begin 79 = .ok (.if_icmp .ge 16, 3) := by decide +kernel
theorem dX12_begin_82 : decode cX12_begin 82 = .ok (.aload_n 0, 1) := by decide +kernel
theorem dX12_begin_83 : decode cX12_begin 83 = .ok (.getfield 44, 3) := by decide +kernel
theorem dX12_begin_86 : decode cX12_begin 86 = .ok (.iload_n 1, 1) := by decide +kernel
theorem dX12_begin_87 : decode cX12_begin 87 = .ok (.iconst 0, 1) := by decide +kernel
theorem dX12_begin_88 : decode cX12_begin 88 = .ok (.iastore, 1) := by decide +kernel
theorem dX12_begin_89 : decode cX12_begin 89 = .ok (.iinc 1 1, 3) := by decide +kernel
theorem dX12_begin_92 : decode cX12_begin 92 = .ok (.goto (-16), 3) := by decide +kernel
theorem dX12_begin_95 : decode cX12_begin 95 = .ok (.aload_n 0, 1) := by decide +kernel
theorem dX12_begin_96 : decode cX12_begin 96 = .ok (.iconst 0, 1) := by decide +kernel
theorem dX12_begin_97 : decode cX12_begin 97 = .ok (.putfield 208, 3) := by decide +kernel
theorem dX12_begin_100 : decode cX12_begin 100 = .ok (.aload_n 0, 1) := by decide +kernel
theorem dX12_begin_101 : decode cX12_begin 101 = .ok (.invokevirtual 211, 3) := by decide +kernel
theorem dX12_begin_104 : decode cX12_begin 104 = .ok (.pop, 1) := by decide +kernel
theorem dX12_begin_105 : decode cX12_begin 105 = .ok (.return_, 1) := by decide +kernel
theorem dX12_copyRule_0 : decode cX12_copyRule 0 = .ok (.aload_n 0, 1) := by decide +kernel
theorem dX12_copyRule_1 : decode cX12_copyRule 1 = .ok (.getfield 29, 3) := by decide +kernel
theorem dX12_copyRule_4 : decode cX12_copyRule 4 = .ok (.iload 7, 2) := by decide +kernel
theorem dX12_copyRule_6 : decode cX12_copyRule 6 = .ok (.aload_n 1, 1) := by decide +kernel
theorem dX12_copyRule_7 : decode cX12_copyRule 7 = .ok (.iload 6, 2) := by decide +kernel
theorem dX12_copyRule_9 : decode cX12_copyRule 9 = .ok (.iaload, 1) := by decide +kernel
theorem dX12_copyRule_10 : decode cX12_copyRule 10 = .ok (.iastore, 1) := by decide +kernel
theorem dX12_copyRule_11 : decode cX12_copyRule 11 = .ok (.aload_n 0, 1) := by decide +kernel
theorem dX12_copyRule_12 : decode cX12_copyRule 12 = .ok (.getfield 32, 3) := by decide +kernel
theorem dX12_copyRule_15 : decode cX12_copyRule 15 = .ok (.iload 7, 2) := by decide +kernel
theorem dX12_copyRule_17 : decode cX12_copyRule 17 = .ok (.aload_n 2, 1) := by decide +kernel
theorem dX12_copyRule_18 : decode cX12_copyRule 18 = .ok (.iload 6, 2) := by decide +kernel
theorem dX12_copyRule_20 : decode cX12_copyRule 20 = .ok (.iaload, 1) := by decide +kernel
theorem dX12_copyRule_21 : decode cX12_copyRule 21 = .ok (.iastore, 1) := by decide +kernel
theorem dX12_copyRule_22 : decode cX12_copyRule 22 = .ok (.aload_n 0, 1) := by decide +kernel
theorem dX12_copyRule_23 : decode cX12_copyRule 23 = .ok (.getfield 35, 3) := by decide +kernel
theorem dX12_copyRule_26 : decode cX12_copyRule 26 = .ok (.iload 7, 2) := by decide +kernel
theorem dX12_copyRule_28 : decode cX12_copyRule 28 = .ok (.aload_n 3, 1) := by decide +kernel
theorem dX12_copyRule_29 : decode cX12_copyRule 29 = .ok (.iload 6, 2) := by decide +kernel
theorem dX12_copyRule_31 : decode cX12_copyRule 31 = .ok (.iaload, 1) := by decide +kernel
theorem dX12_copyRule_32 : decode cX12_copyRule 32 = .ok (.iastore, 1) := by decide +kernel
theorem dX12_copyRule_33 : decode cX12_copyRule 33 = .ok (.aload_n 0, 1) := by decide +kernel
theorem dX12_copyRule_34 : decode cX12_copyRule 34 = .ok (.getfield 38, 3) := by decide +kernel
theorem dX12_copyRule_37 : decode cX12_copyRule 37 = .ok (.iload 7, 2) := by decide +kernel
theorem dX12_copyRule_39 : decode cX12_copyRule 39 = .ok (.aload 4, 2) := by decide +kernel
theorem dX12_copyRule_41 : decode cX12_copyRule 41 = .ok (.iload 6, 2) := by decide +kernel
theorem dX12_copyRule_43 : decode cX12_copyRule 43 = .ok (.iaload, 1) := by decide +kernel
theorem dX12_copyRule_44 : decode cX12_copyRule 44 = .ok (.iastore, 1) := by decide +kernel
theorem dX12_copyRule_45 : decode cX12_copyRule 45 = .ok (.iconst 0, 1) := by decide +kernel
theorem dX12_copyRule_46 : decode cX12_copyRule 46 = .ok (.istore 8, 2) := by decide +kernel
theorem dX12_copyRule_48 : decode cX12_copyRule 48 = .ok (.iload 8, 2) := by decide +kernel
theorem dX12_copyRule_50 : decode cX12_copyRule 50 = .ok (.iconst 5, 1) := by decide +kernel
theorem dX12_copyRule_51 : decode cX12_copyRule 51 = .ok (.if_icmp .ge 31, 3) := by decide +kernel
theorem dX12_copyRule_54 : decode cX12_copyRule 54 = .ok (.aload_n 0, 1) := by decide +kernel
theorem dX12_copyRule_55 : decode cX12_copyRule 55 = .ok (.getfield 41, 3) := by decide +kernel
theorem dX12_copyRule_58 : decode cX12_copyRule 58 = .ok (.iconst 5, 1) := by decide +kernel
theorem dX12_copyRule_59 : decode cX12_copyRule 59 = .ok (.iload 7, 2) := by decide +kernel
theorem dX12_copyRule_61 : decode cX12_copyRule 61 = .ok (.imul, 1) := by decide +kernel
theorem dX12_copyRule_62 : decode cX12_copyRule 62 = .ok (.iload 8, 2) := by decide +kernel
theorem dX12_copyRule_64 : decode cX12_copyRule 64 = .ok (.iadd, 1) := by decide +kernel
theorem dX12_copyRule_65 : decode cX12_copyRule 65 = .ok (.aload 5, 2) := by decide +kernel
theorem dX12_copyRule_67 : decode cX12_copyRule 67 = .ok (.iconst 5, 1) := by decide +kernel
theorem dX12_copyRule_68 : decode cX12_copyRule 68 = .ok (.iload 6, 2) := by decide +kernel
theorem dX12_copyRule_70 : decode cX12_copyRule 70 = .ok (.imul, 1) := by decide +kernel
theorem dX12_copyRule_71 : decode cX12_copyRule 71 = .ok (.iload 8, 2) := by decide +kernel
theorem dX12_copyRule_73 : decode cX12_copyRule 73 = .ok (.iadd, 1) := by decide +kernel
theorem dX12_copyRule_74 : decode cX12_copyRule 74 = .ok (.iaload, 1) := by decide +kernel
theorem dX12_copyRule_75 : decode cX12_copyRule 75 = .ok (.iastore, 1) := by decide +kernel
theorem dX12_copyRule_76 : decode cX12_copyRule 76 = .ok (.iinc 8 1, 3) := by decide +kernel
theorem dX12_copyRule_79 : decode cX12_copyRule 79 = .ok (.goto (-31), 3) := by decide +kernel
theorem dX12_copyRule_82 : decode cX12_copyRule 82 = .ok (.return_, 1) := by decide +kernel
theorem dX12_moveRule_0 : decode cX12_moveRule 0 = .ok (.aload_n 0, 1) := by decide +kernel
theorem dX12_moveRule_1 : decode cX12_moveRule 1 = .ok (.aload_n 0, 1) := by decide +kernel
theorem dX12_moveRule_2 : decode cX12_moveRule 2 = .ok (.getfield 29, 3) := by decide +kernel
theorem dX12_moveRule_5 : decode cX12_moveRule 5 = .ok (.aload_n 0, 1) := by decide +kernel
theorem dX12_moveRule_6 : decode cX12_moveRule 6 = .ok (.getfield 32, 3) := by decide +kernel
theorem dX12_moveRule_9 : decode cX12_moveRule 9 = .ok (.aload_n 0, 1) := by decide +kernel
theorem dX12_moveRule_10 : decode cX12_moveRule 10 = .ok (.getfield 35, 3) := by decide +kernel
theorem dX12_moveRule_13 : decode cX12_moveRule 13 = .ok (.aload_n 0, 1) := by decide +kernel
theorem dX12_moveRule_14 : decode cX12_moveRule 14 = .ok (.getfield 38, 3) := by decide +kernel
theorem dX12_moveRule_17 : decode cX12_moveRule 17 = .ok (.aload_n 0, 1) := by decide +kernel
theorem dX12_moveRule_18 : decode cX12_moveRule 18 = .ok (.getfield 41, 3) := by decide +kernel
theorem dX12_moveRule_21 : decode cX12_moveRule 21 = .ok (.iload_n 1, 1) := by decide +kernel
theorem dX12_moveRule_22 : decode cX12_moveRule 22 = .ok (.iload_n 2, 1) := by decide +kernel
theorem dX12_moveRule_23 : decode cX12_moveRule 23 = .ok (.invokevirtual 204, 3) := by decide +kernel
theorem dX12_moveRule_26 : decode cX12_moveRule 26 = .ok (.return_, 1) := by decide +kernel
theorem dX12_errorAt_0 : decode cX12_errorAt 0 = .ok (.aload_n 0, 1) := by decide +kernel
theorem dX12_errorAt_1 : decode cX12_errorAt 1 = .ok (.iconst 0, 1) := by decide +kernel
theorem dX12_errorAt_2 : decode cX12_errorAt 2 = .ok (.putfield 83, 3) := by decide +kernel
theorem dX12_errorAt_5 : decode cX12_errorAt 5 = .ok (.aload_n 0, 1) := by decide +kernel
theorem dX12_errorAt_6 : decode cX12_errorAt 6 = .ok (.getfield 13, 3) := by decide +kernel
theorem dX12_errorAt_9 : decode cX12_errorAt 9 = .ok (.ireturn, 1) := by decide +kernel
theorem dX12_cellOf_0 : decode cX12_cellOf 0 = .ok (.aload_n 0, 1) := by decide +kernel
theorem dX12_cellOf_1 : decode cX12_cellOf 1 = .ok (.getfield 41, 3) := by decide +kernel
theorem dX12_cellOf_4 : decode cX12_cellOf 4 = .ok (.iconst 5, 1) := by decide +kernel
theorem dX12_cellOf_5 : decode cX12_cellOf 5 = .ok (.iload_n 1, 1) := by decide +kernel
theorem dX12_cellOf_6 : decode cX12_cellOf 6 = .ok (.imul, 1) := by decide +kernel
theorem dX12_cellOf_7 : decode cX12_cellOf 7 = .ok (.iload_n 2, 1) := by decide +kernel
theorem dX12_cellOf_8 : decode cX12_cellOf 8 = .ok (.iadd, 1) := by decide +kernel
theorem dX12_cellOf_9 : decode cX12_cellOf 9 = .ok (.iaload, 1) := by decide +kernel
theorem dX12_cellOf_10 : decode cX12_cellOf 10 = .ok (.ireturn, 1) := by decide +kernel
theorem dX12_isBroken_0 : decode cX12_isBroken 0 = .ok (.aload_n 0, 1) := by decide +kernel
theorem dX12_isBroken_1 : decode cX12_isBroken 1 = .ok (.getfield 38, 3) := by decide +kernel
theorem dX12_isBroken_4 : decode cX12_isBroken 4 = .ok (.iload_n 1, 1) := by decide +kernel
theorem dX12_isBroken_5 : decode cX12_isBroken 5 = .ok (.iaload, 1) := by decide +kernel
theorem dX12_isBroken_6 : decode cX12_isBroken 6 = .ok (.istore_n 3, 1) := by decide +kernel
theorem dX12_isBroken_7 : decode cX12_isBroken 7 = .ok (.aload_n 0, 1) := by decide +kernel
theorem dX12_isBroken_8 : decode cX12_isBroken 8 = .ok (.getfield 32, 3) := by decide +kernel
theorem dX12_isBroken_11 : decode cX12_isBroken 11 = .ok (.iload_n 1, 1) := by decide +kernel
theorem dX12_isBroken_12 : decode cX12_isBroken 12 = .ok (.iaload, 1) := by decide +kernel
theorem dX12_isBroken_13 : decode cX12_isBroken 13 = .ok (.istore 4, 2) := by decide +kernel
theorem dX12_isBroken_15 : decode cX12_isBroken 15 = .ok (.iconst 0, 1) := by decide +kernel
theorem dX12_isBroken_16 : decode cX12_isBroken 16 = .ok (.istore 5, 2) := by decide +kernel
theorem dX12_isBroken_18 : decode cX12_isBroken 18 = .ok (.iconst 0, 1) := by decide +kernel
theorem dX12_isBroken_19 : decode cX12_isBroken 19 = .ok (.istore 6, 2) := by decide +kernel
theorem dX12_isBroken_21 : decode cX12_isBroken 21 = .ok (.iload 6, 2) := by decide +kernel
theorem dX12_isBroken_23 : decode cX12_isBroken 23 = .ok (.iload_n 3, 1) := by decide +kernel
theorem dX12_isBroken_24 : decode cX12_isBroken 24 = .ok (.if_icmp .ge 31, 3) := by decide +kernel
theorem dX12_isBroken_27 : decode cX12_isBroken 27 = .ok (.iload 5, 2) := by decide +kernel
theorem dX12_isBroken_29 : decode cX12_isBroken 29 = .ok (.aload_n 2, 1) := by decide +kernel
theorem dX12_isBroken_30 : decode cX12_isBroken 30 = .ok (.aload_n 0, 1) := by decide +kernel
theorem dX12_isBroken_31 : decode cX12_isBroken 31 = .ok (.iload_n 1, 1) := by decide +kernel
theorem dX12_isBroken_32 : decode cX12_isBroken 32 = .ok (.iload 6, 2) := by decide +kernel
theorem dX12_isBroken_34 : decode cX12_isBroken 34 = .ok (.invokevirtual 214, 3) := by decide +kernel
theorem dX12_isBroken_37 : decode cX12_isBroken 37 = .ok (.iaload, 1) := by decide +kernel
theorem dX12_isBroken_38 : decode cX12_isBroken 38 = .ok (.ifCond .ne 7, 3) := by decide +kernel
theorem dX12_isBroken_41 : decode cX12_isBroken 41 = .ok (.iconst 1, 1) := by decide +kernel
theorem dX12_isBroken_42 : decode cX12_isBroken 42 = .ok (.goto 4, 3) := by decide +kernel
theorem dX12_isBroken_45 : decode cX12_isBroken 45 = .ok (.iconst 0, 1) := by decide +kernel
theorem dX12_isBroken_46 : decode cX12_isBroken 46 = .ok (.iadd, 1) := by decide +kernel
theorem dX12_isBroken_47 : decode cX12_isBroken 47 = .ok (.istore 5, 2) := by decide +kernel
theorem dX12_isBroken_49 : decode cX12_isBroken 49 = .ok (.iinc 6 1, 3) := by decide +kernel
theorem dX12_isBroken_52 : decode cX12_isBroken 52 = .ok (.goto (-31), 3) := by decide +kernel
theorem dX12_isBroken_55 : decode cX12_isBroken 55 = .ok (.aload_n 0, 1) := by decide +kernel
theorem dX12_isBroken_56 : decode cX12_isBroken 56 = .ok (.getfield 29, 3) := by decide +kernel
theorem dX12_isBroken_59 : decode cX12_isBroken 59 = .ok (.iload_n 1, 1) := by decide +kernel
theorem dX12_isBroken_60 : decode cX12_isBroken 60 = .ok (.iaload, 1) := by decide +kernel
theorem dX12_isBroken_61 : decode cX12_isBroken 61 = .ok (.tableswitch 388 1 9 #[51, 138, 388, 388, 200, 295, 295, 222, 295], 51) := by decide +kernel
theorem dX12_isBroken_112 : decode cX12_isBroken 112 = .ok (.iconst 0, 1) := by decide +kernel
theorem dX12_isBroken_113 : decode cX12_isBroken 113 = .ok (.istore 6, 2) := by decide +kernel
theorem dX12_isBroken_115 : decode cX12_isBroken 115 = .ok (.iconst 0, 1) := by decide +kernel
theorem dX12_isBroken_116 : decode cX12_isBroken 116 = .ok (.istore 7, 2) := by decide +kernel
theorem dX12_isBroken_118 : decode cX12_isBroken 118 = .ok (.iconst 0, 1) := by decide +kernel
theorem dX12_isBroken_119 : decode cX12_isBroken 119 = .ok (.istore 8, 2) := by decide +kernel
theorem dX12_isBroken_121 : decode cX12_isBroken 121 = .ok (.iload 8, 2) := by decide +kernel
theorem dX12_isBroken_123 : decode cX12_isBroken 123 = .ok (.iload_n 3, 1) := by decide +kernel
theorem dX12_isBroken_124 : decode cX12_isBroken 124 = .ok (.if_icmp .ge 55, 3) := by decide +kernel
theorem dX12_isBroken_127 : decode cX12_isBroken 127 = .ok (.aload_n 2, 1) := by decide +kernel
theorem dX12_isBroken_128 : decode cX12_isBroken 128 = .ok (.aload_n 0, 1) := by decide +kernel
theorem dX12_isBroken_129 : decode cX12_isBroken 129 = .ok (.iload_n 1, 1) := by decide +kernel
theorem dX12_isBroken_130 : decode cX12_isBroken 130 = .ok (.iload 8, 2) := by decide +kernel
theorem dX12_isBroken_132 : decode cX12_isBroken 132 = .ok (.invokevirtual 214, 3) := by decide +kernel
theorem dX12_isBroken_135 : decode cX12_isBroken 135 = .ok (.iaload, 1) := by decide +kernel
theorem dX12_isBroken_136 : decode cX12_isBroken 136 = .ok (.istore 9, 2) := by decide +kernel
theorem dX12_isBroken_138 : decode cX12_isBroken 138 = .ok (.iload 6, 2) := by decide +kernel
theorem dX12_isBroken_140 : decode cX12_isBroken 140 = .ok (.iload 9, 2) := by decide +kernel
theorem dX12_isBroken_142 : decode cX12_isBroken 142 = .ok (.ifCond .ne 7, 3) := by decide +kernel
theorem dX12_isBroken_145 : decode cX12_isBroken 145 = .ok (.iconst 1, 1) := by decide +kernel
theorem dX12_isBroken_146 : decode cX12_isBroken 146 = .ok (.goto 5, 3) := by decide +kernel
theorem dX12_isBroken_149 : decode cX12_isBroken 149 = .ok (.iload 9, 2) := by decide +kernel
theorem dX12_isBroken_151 : decode cX12_isBroken 151 = .ok (.iadd, 1) := by decide +kernel
theorem dX12_isBroken_152 : decode cX12_isBroken 152 = .ok (.istore 6, 2) := by decide +kernel
theorem dX12_isBroken_154 : decode cX12_isBroken 154 = .ok (.iload 7, 2) := by decide +kernel
theorem dX12_isBroken_156 : decode cX12_isBroken 156 = .ok (.iload 9, 2) := by decide +kernel
theorem dX12_isBroken_158 : decode cX12_isBroken 158 = .ok (.ifCond .ne 10, 3) := by decide +kernel
theorem dX12_isBroken_161 : decode cX12_isBroken 161 = .ok (.aload_n 0, 1) := by decide +kernel
theorem dX12_isBroken_162 : decode cX12_isBroken 162 = .ok (.getfield 201, 3) := by decide +kernel
theorem dX12_isBroken_165 : decode cX12_isBroken 165 = .ok (.goto 5, 3) := by decide +kernel
theorem dX12_isBroken_168 : decode cX12_isBroken 168 = .ok (.iload 9, 2) := by decide +kernel
theorem dX12_isBroken_170 : decode cX12_isBroken 170 = .ok (.iadd, 1) := by decide +kernel
theorem dX12_isBroken_171 : decode cX12_isBroken 171 = .ok (.istore 7, 2) := by decide +kernel
theorem dX12_isBroken_173 : decode cX12_isBroken 173 = .ok (.iinc 8 1, 3) := by decide +kernel
theorem dX12_isBroken_176 : decode cX12_isBroken 176 = .ok (.goto (-55), 3) := by decide +kernel
theorem dX12_isBroken_179 : decode cX12_isBroken 179 = .ok (.iload 6, 2) := by decide +kernel
theorem dX12_isBroken_181 : decode cX12_isBroken 181 = .ok (.iload 4, 2) := by decide +kernel
theorem dX12_isBroken_183 : decode cX12_isBroken 183 = .ok (.if_icmp .gt 10, 3) := by decide +kernel
theorem dX12_isBroken_186 : decode cX12_isBroken 186 = .ok (.iload 7, 2) := by decide +kernel
theorem dX12_isBroken_188 : decode cX12_isBroken 188 = .ok (.iload 4, 2) := by decide +kernel
theorem dX12_isBroken_190 : decode cX12_isBroken 190 = .ok (.if_icmp .ge 7, 3) := by decide +kernel
theorem dX12_isBroken_193 : decode cX12_isBroken 193 = .ok (.iconst 1, 1) := by decide +kernel
theorem dX12_isBroken_194 : decode cX12_isBroken 194 = .ok (.goto 4, 3) := by decide +kernel
theorem dX12_isBroken_197 : decode cX12_isBroken 197 = .ok (.iconst 0, 1) := by decide +kernel
theorem dX12_isBroken_198 : decode cX12_isBroken 198 = .ok (.ireturn, 1) := by decide +kernel
theorem dX12_isBroken_199 : decode cX12_isBroken 199 = .ok (.iconst 1, 1) := by decide +kernel
theorem dX12_isBroken_200 : decode cX12_isBroken 200 = .ok (.istore 6, 2) := by decide +kernel
theorem dX12_isBroken_202 : decode cX12_isBroken 202 = .ok (.iconst 0, 1) := by decide +kernel
theorem dX12_isBroken_203 : decode cX12_isBroken 203 = .ok (.istore 7, 2) := by decide +kernel
theorem dX12_isBroken_205 : decode cX12_isBroken 205 = .ok (.iload 7, 2) := by decide +kernel
theorem dX12_isBroken_207 : decode cX12_isBroken 207 = .ok (.iload_n 3, 1) := by decide +kernel
theorem dX12_isBroken_208 : decode cX12_isBroken 208 = .ok (.if_icmp .ge 27, 3) := by decide +kernel
theorem dX12_isBroken_211 : decode cX12_isBroken 211 = .ok (.iload 6, 2) := by decide +kernel
theorem dX12_isBroken_213 : decode cX12_isBroken 213 = .ok (.iconst 1, 1) := by decide +kernel
theorem dX12_isBroken_214 : decode cX12_isBroken 214 = .ok (.aload_n 2, 1) := by decide +kernel
theorem dX12_isBroken_215 : decode cX12_isBroken 215 = .ok (.aload_n 0, 1) := by decide +kernel
theorem dX12_isBroken_216 : decode cX12_isBroken 216 = .ok (.iload_n 1, 1) := by decide +kernel
theorem dX12_isBroken_217 : decode cX12_isBroken 217 = .ok (.iload 7, 2) := by decide +kernel
theorem dX12_isBroken_219 : decode cX12_isBroken 219 = .ok (.invokevirtual 214, 3) := by decide +kernel
theorem dX12_isBroken_222 : decode cX12_isBroken 222 = .ok (.iaload, 1) := by decide +kernel
theorem dX12_isBroken_223 : decode cX12_isBroken 223 = .ok (.invokestatic 218, 3) := by decide +kernel
theorem dX12_isBroken_226 : decode cX12_isBroken 226 = .ok (.imul, 1) := by decide +kernel
theorem dX12_isBroken_227 : decode cX12_isBroken 227 = .ok (.istore 6, 2) := by decide +kernel
theorem dX12_isBroken_229 : decode cX12_isBroken 229 = .ok (.iinc 7 1, 3) := by decide +kernel
theorem dX12_isBroken_232 : decode cX12_isBroken 232 = .ok (.goto (-27), 3) := by decide +kernel
theorem dX12_isBroken_235 : decode cX12_isBroken 235 = .ok (.iload 4, 2) := by decide +kernel
theorem dX12_isBroken_237 : decode cX12_isBroken 237 = .ok (.iload 6, 2) := by decide +kernel
theorem dX12_isBroken_239 : decode cX12_isBroken 239 = .ok (.irem, 1) := by decide +kernel
theorem dX12_isBroken_240 : decode cX12_isBroken 240 = .ok (.ifCond .ne 15, 3) := by decide +kernel
theorem dX12_isBroken_243 : decode cX12_isBroken 243 = .ok (.iload 5, 2) := by decide +kernel
theorem dX12_isBroken_245 : decode cX12_isBroken 245 = .ok (.ifCond .ne 14, 3) := by decide +kernel
theorem dX12_isBroken_248 : decode cX12_isBroken 248 = .ok (.iload 6, 2) := by decide +kernel
theorem dX12_isBroken_250 : decode cX12_isBroken 250 = .ok (.iload 4, 2) := by decide +kernel
theorem dX12_isBroken_252 : decode cX12_isBroken 252 = .ok (.if_icmp .eq 7, 3) := by decide +kernel
theorem dX12_isBroken_255 : decode cX12_isBroken 255 = .ok (.iconst 1, 1) := by decide +kernel
theorem dX12_isBroken_256 : decode cX12_isBroken 256 = .ok (.goto 4, 3) := by decide +kernel
theorem dX12_isBroken_259 : decode cX12_isBroken 259 = .ok (.iconst 0, 1) := by decide +kernel
theorem dX12_isBroken_260 : decode cX12_isBroken 260 = .ok (.ireturn, 1) := by decide +kernel
theorem dX12_isBroken_261 : decode cX12_isBroken 261 = .ok (.iload 5, 2) := by decide +kernel
theorem dX12_isBroken_263 : decode cX12_isBroken 263 = .ok (.ifCond .ne 18, 3) := by decide +kernel
theorem dX12_isBroken_266 : decode cX12_isBroken 266 = .ok (.aload_n 0, 1) := by decide +kernel
theorem dX12_isBroken_267 : decode cX12_isBroken 267 = .ok (.iload_n 1, 1) := by decide +kernel
theorem dX12_isBroken_268 : decode cX12_isBroken 268 = .ok (.aload_n 2, 1) := by decide +kernel
theorem dX12_isBroken_269 : decode cX12_isBroken 269 = .ok (.invokevirtual 223, 3) := by decide +kernel
theorem dX12_isBroken_272 : decode cX12_isBroken 272 = .ok (.iload 4, 2) := by decide +kernel
theorem dX12_isBroken_274 : decode cX12_isBroken 274 = .ok (.if_icmp .eq 7, 3) := by decide +kernel
theorem dX12_isBroken_277 : decode cX12_isBroken 277 = .ok (.iconst 1, 1) := by decide +kernel
theorem dX12_isBroken_278 : decode cX12_isBroken 278 = .ok (.goto 4, 3) := by decide +kernel
theorem dX12_isBroken_281 : decode cX12_isBroken 281 = .ok (.iconst 0, 1) := by decide +kernel
theorem dX12_isBroken_282 : decode cX12_isBroken 282 = .ok (.ireturn, 1) := by decide +kernel
theorem dX12_isBroken_283 : decode cX12_isBroken 283 = .ok (.iconst 0, 1) := by decide +kernel
theorem dX12_isBroken_284 : decode cX12_isBroken 284 = .ok (.istore 6, 2) := by decide +kernel
theorem dX12_isBroken_286 : decode cX12_isBroken 286 = .ok (.iconst 0, 1) := by decide +kernel
theorem dX12_isBroken_287 : decode cX12_isBroken 287 = .ok (.istore 7, 2) := by decide +kernel
theorem dX12_isBroken_289 : decode cX12_isBroken 289 = .ok (.iload 7, 2) := by decide +kernel
theorem dX12_isBroken_291 : decode cX12_isBroken 291 = .ok (.iload_n 3, 1) := by decide +kernel
theorem dX12_isBroken_292 : decode cX12_isBroken 292 = .ok (.if_icmp .ge 33, 3) := by decide +kernel
theorem dX12_isBroken_295 : decode cX12_isBroken 295 = .ok (.iload 6, 2) := by decide +kernel
theorem dX12_isBroken_297 : decode cX12_isBroken 297 = .ok (.aload_n 2, 1) := by decide +kernel
theorem dX12_isBroken_298 : decode cX12_isBroken 298 = .ok (.aload_n 0, 1) := by decide +kernel
theorem dX12_isBroken_299 : decode cX12_isBroken 299 = .ok (.iload_n 1, 1) := by decide +kernel
theorem dX12_isBroken_300 : decode cX12_isBroken 300 = .ok (.iload 7, 2) := by decide +kernel
theorem dX12_isBroken_302 : decode cX12_isBroken 302 = .ok (.invokevirtual 214, 3) := by decide +kernel
theorem dX12_isBroken_305 : decode cX12_isBroken 305 = .ok (.iaload, 1) := by decide +kernel
theorem dX12_isBroken_306 : decode cX12_isBroken 306 = .ok (.iload 4, 2) := by decide +kernel
theorem dX12_isBroken_308 : decode cX12_isBroken 308 = .ok (.if_icmp .ne 7, 3) := by decide +kernel
theorem dX12_isBroken_311 : decode cX12_isBroken 311 = .ok (.iconst 1, 1) := by decide +kernel
theorem dX12_isBroken_312 : decode cX12_isBroken 312 = .ok (.goto 4, 3) := by decide +kernel
theorem dX12_isBroken_315 : decode cX12_isBroken 315 = .ok (.iconst 0, 1) := by decide +kernel
theorem dX12_isBroken_316 : decode cX12_isBroken 316 = .ok (.iadd, 1) := by decide +kernel
theorem dX12_isBroken_317 : decode cX12_isBroken 317 = .ok (.istore 6, 2) := by decide +kernel
theorem dX12_isBroken_319 : decode cX12_isBroken 319 = .ok (.iinc 7 1, 3) := by decide +kernel
theorem dX12_isBroken_322 : decode cX12_isBroken 322 = .ok (.goto (-33), 3) := by decide +kernel
theorem dX12_isBroken_325 : decode cX12_isBroken 325 = .ok (.iload 6, 2) := by decide +kernel
theorem dX12_isBroken_327 : decode cX12_isBroken 327 = .ok (.aload_n 0, 1) := by decide +kernel
theorem dX12_isBroken_328 : decode cX12_isBroken 328 = .ok (.getfield 35, 3) := by decide +kernel
theorem dX12_isBroken_331 : decode cX12_isBroken 331 = .ok (.iload_n 1, 1) := by decide +kernel
theorem dX12_isBroken_332 : decode cX12_isBroken 332 = .ok (.iaload, 1) := by decide +kernel
theorem dX12_isBroken_333 : decode cX12_isBroken 333 = .ok (.if_icmp .gt 17, 3) := by decide +kernel
theorem dX12_isBroken_336 : decode cX12_isBroken 336 = .ok (.iload 6, 2) := by decide +kernel
theorem dX12_isBroken_338 : decode cX12_isBroken 338 = .ok (.iload 5, 2) := by decide +kernel
theorem dX12_isBroken_340 : decode cX12_isBroken 340 = .ok (.iadd, 1) := by decide +kernel
theorem dX12_isBroken_341 : decode cX12_isBroken 341 = .ok (.aload_n 0, 1) := by decide +kernel
theorem dX12_isBroken_342 : decode cX12_isBroken 342 = .ok (.getfield 35, 3) := by decide +kernel
theorem dX12_isBroken_345 : decode cX12_isBroken 345 = .ok (.iload_n 1, 1) := by decide +kernel
theorem dX12_isBroken_346 : decode cX12_isBroken 346 = .ok (.iaload, 1) := by decide +kernel
theorem dX12_isBroken_347 : decode cX12_isBroken 347 = .ok (.if_icmp .ge 7, 3) := by decide +kernel
theorem dX12_isBroken_350 : decode cX12_isBroken 350 = .ok (.iconst 1, 1) := by decide +kernel
theorem dX12_isBroken_351 : decode cX12_isBroken 351 = .ok (.goto 4, 3) := by decide +kernel
theorem dX12_isBroken_354 : decode cX12_isBroken 354 = .ok (.iconst 0, 1) := by decide +kernel
theorem dX12_isBroken_355 : decode cX12_isBroken 355 = .ok (.ireturn, 1) := by decide +kernel
theorem dX12_isBroken_356 : decode cX12_isBroken 356 = .ok (.iconst 0, 1) := by decide +kernel
theorem dX12_isBroken_357 : decode cX12_isBroken 357 = .ok (.istore 6, 2) := by decide +kernel
theorem dX12_isBroken_359 : decode cX12_isBroken 359 = .ok (.iconst 0, 1) := by decide +kernel
theorem dX12_isBroken_360 : decode cX12_isBroken 360 = .ok (.istore 7, 2) := by decide +kernel
theorem dX12_isBroken_362 : decode cX12_isBroken 362 = .ok (.iload 7, 2) := by decide +kernel
theorem dX12_isBroken_364 : decode cX12_isBroken 364 = .ok (.iload_n 3, 1) := by decide +kernel
theorem dX12_isBroken_365 : decode cX12_isBroken 365 = .ok (.if_icmp .ge 81, 3) := by decide +kernel
theorem dX12_isBroken_368 : decode cX12_isBroken 368 = .ok (.aload_n 2, 1) := by decide +kernel
theorem dX12_isBroken_369 : decode cX12_isBroken 369 = .ok (.aload_n 0, 1) := by decide +kernel
theorem dX12_isBroken_370 : decode cX12_isBroken 370 = .ok (.iload_n 1, 1) := by decide +kernel
theorem dX12_isBroken_371 : decode cX12_isBroken 371 = .ok (.iload 7, 2) := by decide +kernel
theorem dX12_isBroken_373 : decode cX12_isBroken 373 = .ok (.invokevirtual 214, 3) := by decide +kernel
theorem dX12_isBroken_376 : decode cX12_isBroken 376 = .ok (.iaload, 1) := by decide +kernel
theorem dX12_isBroken_377 : decode cX12_isBroken 377 = .ok (.istore 8, 2) := by decide +kernel
theorem dX12_isBroken_379 : decode cX12_isBroken 379 = .ok (.iload 6, 2) := by decide +kernel
theorem dX12_isBroken_381 : decode cX12_isBroken 381 = .ok (.ifCond .ne 52, 3) := by decide +kernel
theorem dX12_isBroken_384 : decode cX12_isBroken 384 = .ok (.iload 8, 2) := by decide +kernel
theorem dX12_isBroken_386 : decode cX12_isBroken 386 = .ok (.ifCond .eq 51, 3) := by decide +kernel
theorem dX12_isBroken_389 : decode cX12_isBroken 389 = .ok (.aload_n 0, 1) := by decide +kernel
theorem dX12_isBroken_390 : decode cX12_isBroken 390 = .ok (.getfield 29, 3) := by decide +kernel
theorem dX12_isBroken_393 : decode cX12_isBroken 393 = .ok (.iload_n 1, 1) := by decide +kernel
theorem dX12_isBroken_394 : decode cX12_isBroken 394 = .ok (.iaload, 1) := by decide +kernel
theorem dX12_isBroken_395 : decode cX12_isBroken 395 = .ok (.bipush 9, 2) := by decide +kernel
theorem dX12_isBroken_397 : decode cX12_isBroken 397 = .ok (.if_icmp .ne 13, 3) := by decide +kernel
theorem dX12_isBroken_400 : decode cX12_isBroken 400 = .ok (.iload 8, 2) := by decide +kernel
theorem dX12_isBroken_402 : decode cX12_isBroken 402 = .ok (.iload 4, 2) := by decide +kernel
theorem dX12_isBroken_404 : decode cX12_isBroken 404 = .ok (.if_icmp .eq 33, 3) := by decide +kernel
theorem dX12_isBroken_407 : decode cX12_isBroken 407 = .ok (.goto 26, 3) := by decide +kernel
theorem dX12_isBroken_410 : decode cX12_isBroken 410 = .ok (.iload 8, 2) := by decide +kernel
theorem dX12_isBroken_412 : decode cX12_isBroken 412 = .ok (.iconst 2, 1) := by decide +kernel
theorem dX12_isBroken_413 : decode cX12_isBroken 413 = .ok (.irem, 1) := by decide +kernel
theorem dX12_isBroken_414 : decode cX12_isBroken 414 = .ok (.aload_n 0, 1) := by decide +kernel
theorem dX12_isBroken_415 : decode cX12_isBroken 415 = .ok (.getfield 29, 3) := by decide +kernel
theorem dX12_isBroken_418 : decode cX12_isBroken 418 = .ok (.iload_n 1, 1) := by decide +kernel
theorem dX12_isBroken_419 : decode cX12_isBroken 419 = .ok (.iaload, 1) := by decide +kernel
theorem dX12_isBroken_420 : decode cX12_isBroken 420 = .ok (.bipush 6, 2) := by decide +kernel
theorem dX12_isBroken_422 : decode cX12_isBroken 422 = .ok (.if_icmp .ne 7, 3) := by decide +kernel
theorem dX12_isBroken_425 : decode cX12_isBroken 425 = .ok (.iconst 1, 1) := by decide +kernel
theorem dX12_isBroken_426 : decode cX12_isBroken 426 = .ok (.goto 4, 3) := by decide +kernel
theorem dX12_isBroken_429 : decode cX12_isBroken 429 = .ok (.iconst 0, 1) := by decide +kernel
theorem dX12_isBroken_430 : decode cX12_isBroken 430 = .ok (.if_icmp .eq 7, 3) := by decide +kernel
theorem dX12_isBroken_433 : decode cX12_isBroken 433 = .ok (.iconst 1, 1) := by decide +kernel
theorem dX12_isBroken_434 : decode cX12_isBroken 434 = .ok (.goto 4, 3) := by decide +kernel
theorem dX12_isBroken_437 : decode cX12_isBroken 437 = .ok (.iconst 0, 1) := by decide +kernel
theorem dX12_isBroken_438 : decode cX12_isBroken 438 = .ok (.istore 6, 2) := by decide +kernel
theorem dX12_isBroken_440 : decode cX12_isBroken 440 = .ok (.iinc 7 1, 3) := by decide +kernel
theorem dX12_isBroken_443 : decode cX12_isBroken 443 = .ok (.goto (-81), 3) := by decide +kernel
theorem dX12_isBroken_446 : decode cX12_isBroken 446 = .ok (.iload 6, 2) := by decide +kernel
theorem dX12_isBroken_448 : decode cX12_isBroken 448 = .ok (.ireturn, 1) := by decide +kernel
theorem dX12_isBroken_449 : decode cX12_isBroken 449 = .ok (.aload_n 0, 1) := by decide +kernel
theorem dX12_isBroken_450 : decode cX12_isBroken 450 = .ok (.iload_n 1, 1) := by decide +kernel
theorem dX12_isBroken_451 : decode cX12_isBroken 451 = .ok (.aload_n 2, 1) := by decide +kernel
theorem dX12_isBroken_452 : decode cX12_isBroken 452 = .ok (.invokevirtual 227, 3) := by decide +kernel
theorem dX12_isBroken_455 : decode cX12_isBroken 455 = .ok (.ireturn, 1) := by decide +kernel
theorem dX12_seen_0 : decode cX12_seen 0 = .ok (.iconst 0, 1) := by decide +kernel
theorem dX12_seen_1 : decode cX12_seen 1 = .ok (.istore_n 3, 1) := by decide +kernel
theorem dX12_seen_2 : decode cX12_seen 2 = .ok (.iconst 0, 1) := by decide +kernel
theorem dX12_seen_3 : decode cX12_seen 3 = .ok (.istore 4, 2) := by decide +kernel
theorem dX12_seen_5 : decode cX12_seen 5 = .ok (.iconst 0, 1) := by decide +kernel
theorem dX12_seen_6 : decode cX12_seen 6 = .ok (.istore 5, 2) := by decide +kernel
theorem dX12_seen_8 : decode cX12_seen 8 = .ok (.iload 5, 2) := by decide +kernel
theorem dX12_seen_10 : decode cX12_seen 10 = .ok (.aload_n 0, 1) := by decide +kernel
theorem dX12_seen_11 : decode cX12_seen 11 = .ok (.getfield 38, 3) := by decide +kernel
theorem dX12_seen_14 : decode cX12_seen 14 = .ok (.iload_n 1, 1) := by decide +kernel
theorem dX12_seen_15 : decode cX12_seen 15 = .ok (.iaload, 1) := by decide +kernel
theorem dX12_seen_16 : decode cX12_seen 16 = .ok (.if_icmp .ge 43, 3) := by decide +kernel
theorem dX12_seen_19 : decode cX12_seen 19 = .ok (.aload_n 2, 1) := by decide +kernel
theorem dX12_seen_20 : decode cX12_seen 20 = .ok (.aload_n 0, 1) := by decide +kernel
theorem dX12_seen_21 : decode cX12_seen 21 = .ok (.iload_n 1, 1) := by decide +kernel
theorem dX12_seen_22 : decode cX12_seen 22 = .ok (.iload 5, 2) := by decide +kernel
theorem dX12_seen_24 : decode cX12_seen 24 = .ok (.invokevirtual 214, 3) := by decide +kernel
theorem dX12_seen_27 : decode cX12_seen 27 = .ok (.iaload, 1) := by decide +kernel
theorem dX12_seen_28 : decode cX12_seen 28 = .ok (.istore 6, 2) := by decide +kernel
theorem dX12_seen_30 : decode cX12_seen 30 = .ok (.iload 4, 2) := by decide +kernel
theorem dX12_seen_32 : decode cX12_seen 32 = .ok (.iload 6, 2) := by decide +kernel
theorem dX12_seen_34 : decode cX12_seen 34 = .ok (.iload_n 3, 1) := by decide +kernel
theorem dX12_seen_35 : decode cX12_seen 35 = .ok (.if_icmp .le 7, 3) := by decide +kernel
theorem dX12_seen_38 : decode cX12_seen 38 = .ok (.iconst 1, 1) := by decide +kernel
theorem dX12_seen_39 : decode cX12_seen 39 = .ok (.goto 4, 3) := by decide +kernel
theorem dX12_seen_42 : decode cX12_seen 42 = .ok (.iconst 0, 1) := by decide +kernel
theorem dX12_seen_43 : decode cX12_seen 43 = .ok (.iadd, 1) := by decide +kernel
theorem dX12_seen_44 : decode cX12_seen 44 = .ok (.istore 4, 2) := by decide +kernel
theorem dX12_seen_46 : decode cX12_seen 46 = .ok (.iload_n 3, 1) := by decide +kernel
theorem dX12_seen_47 : decode cX12_seen 47 = .ok (.iload 6, 2) := by decide +kernel
theorem dX12_seen_49 : decode cX12_seen 49 = .ok (.invokestatic 218, 3) := by decide +kernel
theorem dX12_seen_52 : decode cX12_seen 52 = .ok (.istore_n 3, 1) := by decide +kernel
theorem dX12_seen_53 : decode cX12_seen 53 = .ok (.iinc 5 1, 3) := by decide +kernel
theorem dX12_seen_56 : decode cX12_seen 56 = .ok (.goto (-48), 3) := by decide +kernel
theorem dX12_seen_59 : decode cX12_seen 59 = .ok (.iload 4, 2) := by decide +kernel
theorem dX12_seen_61 : decode cX12_seen 61 = .ok (.ireturn, 1) := by decide +kernel
theorem dX12_isPairBroken_0 : decode cX12_isPairBroken 0 = .ok (.iconst 0, 1) := by decide +kernel
theorem dX12_isPairBroken_1 : decode cX12_isPairBroken 1 = .ok (.istore_n 3, 1) := by decide +kernel
theorem dX12_isPairBroken_2 : decode cX12_isPairBroken 2 = .ok (.iconst 0, 1) := by decide +kernel
theorem dX12_isPairBroken_3 : decode cX12_isPairBroken 3 = .ok (.istore 4, 2) := by decide +kernel
theorem dX12_isPairBroken_5 : decode cX12_isPairBroken 5 = .ok (.iload 4, 2) := by decide +kernel
theorem dX12_isPairBroken_7 : decode cX12_isPairBroken 7 = .ok (.aload_n 0, 1) := by decide +kernel
theorem dX12_isPairBroken_8 : decode cX12_isPairBroken 8 = .ok (.getfield 38, 3) := by decide +kernel
theorem dX12_isPairBroken_11 : decode cX12_isPairBroken 11 = .ok (.iload_n 1, 1) := by decide +kernel
theorem dX12_isPairBroken_12 : decode cX12_isPairBroken 12 = .ok (.iaload, 1) := by decide +kernel
theorem dX12_isPairBroken_13 : decode cX12_isPairBroken 13 = .ok (.if_icmp .ge 221, 3) := by decide +kernel
theorem dX12_isPairBroken_16 : decode cX12_isPairBroken 16 = .ok (.iload 4, 2) := by decide +kernel
theorem dX12_isPairBroken_18 : decode cX12_isPairBroken 18 = .ok (.iconst 1, 1) := by decide +kernel
theorem dX12_isPairBroken_19 : decode cX12_isPairBroken 19 = .ok (.iadd, 1) := by decide +kernel
theorem dX12_isPairBroken_20 : decode cX12_isPairBroken 20 = .ok (.istore 5, 2) := by decide +kernel
theorem dX12_isPairBroken_22 : decode cX12_isPairBroken 22 = .ok (.iload 5, 2) := by decide +kernel
theorem dX12_isPairBroken_24 : decode cX12_isPairBroken 24 = .ok (.aload_n 0, 1) := by decide +kernel
theorem dX12_isPairBroken_25 : decode cX12_isPairBroken 25 = .ok (.getfield 38, 3) := by decide +kernel
theorem dX12_isPairBroken_28 : decode cX12_isPairBroken 28 = .ok (.iload_n 1, 1) := by decide +kernel
theorem dX12_isPairBroken_29 : decode cX12_isPairBroken 29 = .ok (.iaload, 1) := by decide +kernel
theorem dX12_isPairBroken_30 : decode cX12_isPairBroken 30 = .ok (.if_icmp .ge 198, 3) := by decide +kernel
theorem dX12_isPairBroken_33 : decode cX12_isPairBroken 33 = .ok (.aload_n 2, 1) := by decide +kernel
theorem dX12_isPairBroken_34 : decode cX12_isPairBroken 34 = .ok (.aload_n 0, 1) := by decide +kernel
theorem dX12_isPairBroken_35 : decode cX12_isPairBroken 35 = .ok (.iload_n 1, 1) := by decide +kernel
theorem dX12_isPairBroken_36 : decode cX12_isPairBroken 36 = .ok (.iload 4, 2) := by decide +kernel
theorem dX12_isPairBroken_38 : decode cX12_isPairBroken 38 = .ok (.invokevirtual 214, 3) := by decide +kernel
theorem dX12_isPairBroken_41 : decode cX12_isPairBroken 41 = .ok (.iaload, 1) := by decide +kernel
theorem dX12_isPairBroken_42 : decode cX12_isPairBroken 42 = .ok (.istore 6, 2) := by decide +kernel
theorem dX12_isPairBroken_44 : decode cX12_isPairBroken 44 = .ok (.aload_n 2, 1) := by decide +kernel
theorem dX12_isPairBroken_45 : decode cX12_isPairBroken 45 = .ok (.aload_n 0, 1) := by decide +kernel
theorem dX12_isPairBroken_46 : decode cX12_isPairBroken 46 = .ok (.iload_n 1, 1) := by decide +kernel
theorem dX12_isPairBroken_47 : decode cX12_isPairBroken 47 = .ok (.iload 5, 2) := by decide +kernel
theorem dX12_isPairBroken_49 : decode cX12_isPairBroken 49 = .ok (.invokevirtual 214, 3) := by decide +kernel
theorem dX12_isPairBroken_52 : decode cX12_isPairBroken 52 = .ok (.iaload, 1) := by decide +kernel
theorem dX12_isPairBroken_53 : decode cX12_isPairBroken 53 = .ok (.istore 7, 2) := by decide +kernel
theorem dX12_isPairBroken_55 : decode cX12_isPairBroken 55 = .ok (.iload 6, 2) := by decide +kernel
theorem dX12_isPairBroken_57 : decode cX12_isPairBroken 57 = .ok (.ifCond .eq 165, 3) := by decide +kernel
theorem dX12_isPairBroken_60 : decode cX12_isPairBroken 60 = .ok (.iload 7, 2) := by decide +kernel
theorem dX12_isPairBroken_62 : decode cX12_isPairBroken 62 = .ok (.ifCond .ne 6, 3) := by decide +kernel
theorem dX12_isPairBroken_65 : decode cX12_isPairBroken 65 = .ok (.goto 157, 3) := by decide +kernel
theorem dX12_isPairBroken_68 : decode cX12_isPairBroken 68 = .ok (.aload_n 0, 1) := by decide +kernel
theorem dX12_isPairBroken_69 : decode cX12_isPairBroken 69 = .ok (.getfield 29, 3) := by decide +kernel
theorem dX12_isPairBroken_72 : decode cX12_isPairBroken 72 = .ok (.iload_n 1, 1) := by decide +kernel
theorem dX12_isPairBroken_73 : decode cX12_isPairBroken 73 = .ok (.iaload, 1) := by decide +kernel
theorem dX12_isPairBroken_74 : decode cX12_isPairBroken 74 = .ok (.istore 8, 2) := by decide +kernel
theorem dX12_isPairBroken_76 : decode cX12_isPairBroken 76 = .ok (.iload 8, 2) := by decide +kernel
theorem dX12_isPairBroken_78 : decode cX12_isPairBroken 78 = .ok (.ifCond .ne 23, 3) := by decide +kernel
theorem dX12_isPairBroken_81 : decode cX12_isPairBroken 81 = .ok (.iload_n 3, 1) := by decide +kernel
theorem dX12_isPairBroken_82 : decode cX12_isPairBroken 82 = .ok (.ifCond .ne 10, 3) := by decide +kernel
theorem dX12_isPairBroken_85 : decode cX12_isPairBroken 85 = .ok (.iload 6, 2) := by decide +kernel
theorem dX12_isPairBroken_87 : decode cX12_isPairBroken 87 = .ok (.iload 7, 2) := by decide +kernel
theorem dX12_isPairBroken_89 : decode cX12_isPairBroken 89 = .ok (.if_icmp .ne 7, 3) := by decide +kernel
theorem dX12_isPairBroken_92 : decode cX12_isPairBroken 92 = .ok (.iconst 1, 1) := by decide +kernel
theorem dX12_isPairBroken_93 : decode cX12_isPairBroken 93 = .ok (.goto 4, 3) := by decide +kernel
theorem dX12_isPairBroken_96 : decode cX12_isPairBroken 96 = .ok (.iconst 0, 1) := by decide +kernel
theorem dX12_isPairBroken_97 : decode cX12_isPairBroken 97 = .ok (.istore_n 3, 1) := by decide +kernel
theorem dX12_isPairBroken_98 : decode cX12_isPairBroken 98 = .ok (.goto 124, 3) := by decide +kernel
theorem dX12_isPairBroken_101 : decode cX12_isPairBroken 101 = .ok (.iload 8, 2) := by decide +kernel
theorem dX12_isPairBroken_103 : decode cX12_isPairBroken 103 = .ok (.bipush 11, 2) := by decide +kernel
theorem dX12_isPairBroken_105 : decode cX12_isPairBroken 105 = .ok (.if_icmp .ne 23, 3) := by decide +kernel
theorem dX12_isPairBroken_108 : decode cX12_isPairBroken 108 = .ok (.iload_n 3, 1) := by decide +kernel
theorem dX12_isPairBroken_109 : decode cX12_isPairBroken 109 = .ok (.ifCond .ne 10, 3) := by decide +kernel
theorem dX12_isPairBroken_112 : decode cX12_isPairBroken 112 = .ok (.iload 6, 2) := by decide +kernel
theorem dX12_isPairBroken_114 : decode cX12_isPairBroken 114 = .ok (.iload 7, 2) := by decide +kernel
theorem dX12_isPairBroken_116 : decode cX12_isPairBroken 116 = .ok (.if_icmp .eq 7, 3) := by decide +kernel
theorem dX12_isPairBroken_119 : decode cX12_isPairBroken 119 = .ok (.iconst 1, 1) := by decide +kernel
theorem dX12_isPairBroken_120 : decode cX12_isPairBroken 120 = .ok (.goto 4, 3) := by decide +kernel
theorem dX12_isPairBroken_123 : decode cX12_isPairBroken 123 = .ok (.iconst 0, 1) := by decide +kernel
theorem dX12_isPairBroken_124 : decode cX12_isPairBroken 124 = .ok (.istore_n 3, 1) := by decide +kernel
theorem dX12_isPairBroken_125 : decode cX12_isPairBroken 125 = .ok (.goto 97, 3) := by decide +kernel
theorem dX12_isPairBroken_128 : decode cX12_isPairBroken 128 = .ok (.iload 8, 2) := by decide +kernel
theorem dX12_isPairBroken_130 : decode cX12_isPairBroken 130 = .ok (.iconst 3, 1) := by decide +kernel
theorem dX12_isPairBroken_131 : decode cX12_isPairBroken 131 = .ok (.if_icmp .ne 23, 3) := by decide +kernel
theorem dX12_isPairBroken_134 : decode cX12_isPairBroken 134 = .ok (.iload_n 3, 1) := by decide +kernel
theorem dX12_isPairBroken_135 : decode cX12_isPairBroken 135 = .ok (.ifCond .ne 10, 3) := by decide +kernel
theorem dX12_isPairBroken_138 : decode cX12_isPairBroken 138 = .ok (.iload 6, 2) := by decide +kernel
theorem dX12_isPairBroken_140 : decode cX12_isPairBroken 140 = .ok (.iload 7, 2) := by decide +kernel
theorem dX12_isPairBroken_142 : decode cX12_isPairBroken 142 = .ok (.if_icmp .lt 7, 3) := by decide +kernel
theorem dX12_isPairBroken_145 : decode cX12_isPairBroken 145 = .ok (.iconst 1, 1) := by decide +kernel
theorem dX12_isPairBroken_146 : decode cX12_isPairBroken 146 = .ok (.goto 4, 3) := by decide +kernel
theorem dX12_isPairBroken_149 : decode cX12_isPairBroken 149 = .ok (.iconst 0, 1) := by decide +kernel
