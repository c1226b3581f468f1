theorem dX12_thrown_0 : decode cX12_thrown 0 = .ok (.aload_n 0, 1) := by decide +kernel
theorem dX12_thrown_1 : decode cX12_thrown 1 = .ok (.getfield 1, 3) := by decide +kernel
theorem dX12_thrown_4 : decode cX12_thrown 4 = .ok (.ireturn, 1) := by decide +kernel
theorem dX12_feed_0 : decode cX12_feed 0 = .ok (.aload_n 0, 1) := by decide +kernel
theorem dX12_feed_1 : decode cX12_feed 1 = .ok (.iconst 0, 1) := by decide +kernel
theorem dX12_feed_2 : decode cX12_feed 2 = .ok (.putfield 1, 3) := by decide +kernel
theorem dX12_feed_5 : decode cX12_feed 5 = .ok (.aload_n 0, 1) := by decide +kernel
theorem dX12_feed_6 : decode cX12_feed 6 = .ok (.lload_n 1, 1) := by decide +kernel
theorem dX12_feed_7 : decode cX12_feed 7 = .ok (.invokevirtual 7, 3) := by decide +kernel
theorem dX12_feed_10 : decode cX12_feed 10 = .ok (.aload_n 0, 1) := by decide +kernel
theorem dX12_feed_11 : decode cX12_feed 11 = .ok (.lload_n 3, 1) := by decide +kernel
theorem dX12_feed_12 : decode cX12_feed 12 = .ok (.invokevirtual 7, 3) := by decide +kernel
theorem dX12_feed_15 : decode cX12_feed 15 = .ok (.aload_n 0, 1) := by decide +kernel
theorem dX12_feed_16 : decode cX12_feed 16 = .ok (.lload 5, 2) := by decide +kernel
theorem dX12_feed_18 : decode cX12_feed 18 = .ok (.invokevirtual 7, 3) := by decide +kernel
theorem dX12_feed_21 : decode cX12_feed 21 = .ok (.aload_n 0, 1) := by decide +kernel
theorem dX12_feed_22 : decode cX12_feed 22 = .ok (.getfield 11, 3) := by decide +kernel
theorem dX12_feed_25 : decode cX12_feed 25 = .ok (.ireturn, 1) := by decide +kernel
theorem dX12_lay_0 : decode cX12_lay 0 = .ok (.bipush 56, 2) := by decide +kernel
theorem dX12_lay_2 : decode cX12_lay 2 = .ok (.istore_n 3, 1) := by decide +kernel
theorem dX12_lay_3 : decode cX12_lay 3 = .ok (.iload_n 3, 1) := by decide +kernel
theorem dX12_lay_4 : decode cX12_lay 4 = .ok (.ifCond .lt 71, 3) := by decide +kernel
theorem dX12_lay_7 : decode cX12_lay 7 = .ok (.lload_n 1, 1) := by decide +kernel
theorem dX12_lay_8 : decode cX12_lay 8 = .ok (.iload_n 3, 1) := by decide +kernel
theorem dX12_lay_9 : decode cX12_lay 9 = .ok (.lshr, 1) := by decide +kernel
theorem dX12_lay_10 : decode cX12_lay 10 = .ok (.l2i, 1) := by decide +kernel
theorem dX12_lay_11 : decode cX12_lay 11 = .ok (.sipush 255, 3) := by decide +kernel
theorem dX12_lay_14 : decode cX12_lay 14 = .ok (.iand, 1) := by decide +kernel
theorem dX12_lay_15 : decode cX12_lay 15 = .ok (.istore 4, 2) := by decide +kernel
theorem dX12_lay_17 : decode cX12_lay 17 = .ok (.iload 4, 2) := by decide +kernel
theorem dX12_lay_19 : decode cX12_lay 19 = .ok (.bipush 10, 2) := by decide +kernel
theorem dX12_lay_21 : decode cX12_lay 21 = .ok (.if_icmp .eq 17, 3) := by decide +kernel
theorem dX12_lay_24 : decode cX12_lay 24 = .ok (.iload 4, 2) := by decide +kernel
theorem dX12_lay_26 : decode cX12_lay 26 = .ok (.bipush 32, 2) := by decide +kernel
theorem dX12_lay_28 : decode cX12_lay 28 = .ok (.if_icmp .lt 41, 3) := by decide +kernel
theorem dX12_lay_31 : decode cX12_lay 31 = .ok (.iload 4, 2) := by decide +kernel
theorem dX12_lay_33 : decode cX12_lay 33 = .ok (.bipush 126, 2) := by decide +kernel
theorem dX12_lay_35 : decode cX12_lay 35 = .ok (.if_icmp .gt 34, 3) := by decide +kernel
theorem dX12_lay_38 : decode cX12_lay 38 = .ok (.aload_n 0, 1) := by decide +kernel
theorem dX12_lay_39 : decode cX12_lay 39 = .ok (.getfield 11, 3) := by decide +kernel
theorem dX12_lay_42 : decode cX12_lay 42 = .ok (.sipush 1000, 3) := by decide +kernel
theorem dX12_lay_45 : decode cX12_lay 45 = .ok (.if_icmp .ge 24, 3) := by decide +kernel
theorem dX12_lay_48 : decode cX12_lay 48 = .ok (.aload_n 0, 1) := by decide +kernel
theorem dX12_lay_49 : decode cX12_lay 49 = .ok (.getfield 14, 3) := by decide +kernel
theorem dX12_lay_52 : decode cX12_lay 52 = .ok (.aload_n 0, 1) := by decide +kernel
theorem dX12_lay_53 : decode cX12_lay 53 = .ok (.getfield 11, 3) := by decide +kernel
theorem dX12_lay_56 : decode cX12_lay 56 = .ok (.iload 4, 2) := by decide +kernel
theorem dX12_lay_58 : decode cX12_lay 58 = .ok (.iastore, 1) := by decide +kernel
theorem dX12_lay_59 : decode cX12_lay 59 = .ok (.aload_n 0, 1) := by decide +kernel
theorem dX12_lay_60 : decode cX12_lay 60 = .ok (.dup, 1) := by decide +kernel
theorem dX12_lay_61 : decode cX12_lay 61 = .ok (.getfield 11, 3) := by decide +kernel
theorem dX12_lay_64 : decode cX12_lay 64 = .ok (.iconst 1, 1) := by decide +kernel
theorem dX12_lay_65 : decode cX12_lay 65 = .ok (.iadd, 1) := by decide +kernel
theorem dX12_lay_66 : decode cX12_lay 66 = .ok (.putfield 11, 3) := by decide +kernel
theorem dX12_lay_69 : decode cX12_lay 69 = .ok (.iinc 3 (-8), 3) := by decide +kernel
theorem dX12_lay_72 : decode cX12_lay 72 = .ok (.goto (-69), 3) := by decide +kernel
theorem dX12_lay_75 : decode cX12_lay 75 = .ok (.return_, 1) := by decide +kernel
theorem dX12_init_0 : decode cX12_init 0 = .ok (.aload_n 0, 1) := by decide +kernel
theorem dX12_init_1 : decode cX12_init 1 = .ok (.invokespecial 18, 3) := by decide +kernel
theorem dX12_init_4 : decode cX12_init 4 = .ok (.aload_n 0, 1) := by decide +kernel
theorem dX12_init_5 : decode cX12_init 5 = .ok (.sipush 1000, 3) := by decide +kernel
theorem dX12_init_8 : decode cX12_init 8 = .ok (.newarray .int, 2) := by decide +kernel
theorem dX12_init_10 : decode cX12_init 10 = .ok (.putfield 14, 3) := by decide +kernel
theorem dX12_init_13 : decode cX12_init 13 = .ok (.aload_n 0, 1) := by decide +kernel
theorem dX12_init_14 : decode cX12_init 14 = .ok (.sipush 1002, 3) := by decide +kernel
theorem dX12_init_17 : decode cX12_init 17 = .ok (.newarray .int, 2) := by decide +kernel
theorem dX12_init_19 : decode cX12_init 19 = .ok (.putfield 24, 3) := by decide +kernel
theorem dX12_init_22 : decode cX12_init 22 = .ok (.aload_n 0, 1) := by decide +kernel
theorem dX12_init_23 : decode cX12_init 23 = .ok (.sipush 1002, 3) := by decide +kernel
theorem dX12_init_26 : decode cX12_init 26 = .ok (.newarray .int, 2) := by decide +kernel
theorem dX12_init_28 : decode cX12_init 28 = .ok (.putfield 27, 3) := by decide +kernel
theorem dX12_init_31 : decode cX12_init 31 = .ok (.aload_n 0, 1) := by decide +kernel
theorem dX12_init_32 : decode cX12_init 32 = .ok (.sipush 1002, 3) := by decide +kernel
theorem dX12_init_35 : decode cX12_init 35 = .ok (.newarray .long, 2) := by decide +kernel
theorem dX12_init_37 : decode cX12_init 37 = .ok (.putfield 30, 3) := by decide +kernel
theorem dX12_init_40 : decode cX12_init 40 = .ok (.aload_n 0, 1) := by decide +kernel
theorem dX12_init_41 : decode cX12_init 41 = .ok (.bipush 30, 2) := by decide +kernel
theorem dX12_init_43 : decode cX12_init 43 = .ok (.newarray .long, 2) := by decide +kernel
theorem dX12_init_45 : decode cX12_init 45 = .ok (.dup, 1) := by decide +kernel
theorem dX12_init_46 : decode cX12_init 46 = .ok (.iconst 0, 1) := by decide +kernel
theorem dX12_init_47 : decode cX12_init 47 = .ok (.ldc2_w 34, 3) := by decide +kernel
theorem dX12_init_50 : decode cX12_init 50 = .ok (.lastore, 1) := by decide +kernel
theorem dX12_init_51 : decode cX12_init 51 = .ok (.dup, 1) := by decide +kernel
theorem dX12_init_52 : decode cX12_init 52 = .ok (.iconst 1, 1) := by decide +kernel
theorem dX12_init_53 : decode cX12_init 53 = .ok (.ldc2_w 36, 3) := by decide +kernel
theorem dX12_init_56 : decode cX12_init 56 = .ok (.lastore, 1) := by decide +kernel
theorem dX12_init_57 : decode cX12_init 57 = .ok (.dup, 1) := by decide +kernel
theorem dX12_init_58 : decode cX12_init 58 = .ok (.iconst 2, 1) := by decide +kernel
theorem dX12_init_59 : decode cX12_init 59 = .ok (.ldc2_w 38, 3) := by decide +kernel
theorem dX12_init_62 : decode cX12_init 62 = .ok (.lastore, 1) := by decide +kernel
theorem dX12_init_63 : decode cX12_init 63 = .ok (.dup, 1) := by decide +kernel
theorem dX12_init_64 : decode cX12_init 64 = .ok (.iconst 3, 1) := by decide +kernel
theorem dX12_init_65 : decode cX12_init 65 = .ok (.ldc2_w 40, 3) := by decide +kernel
theorem dX12_init_68 : decode cX12_init 68 = .ok (.lastore, 1) := by decide +kernel
theorem dX12_init_69 : decode cX12_init 69 = .ok (.dup, 1) := by decide +kernel
theorem dX12_init_70 : decode cX12_init 70 = .ok (.iconst 4, 1) := by decide +kernel
theorem dX12_init_71 : decode cX12_init 71 = .ok (.ldc2_w 42, 3) := by decide +kernel
theorem dX12_init_74 : decode cX12_init 74 = .ok (.lastore, 1) := by decide +kernel
theorem dX12_init_75 : decode cX12_init 75 = .ok (.dup, 1) := by decide +kernel
theorem dX12_init_76 : decode cX12_init 76 = .ok (.iconst 5, 1) := by decide +kernel
theorem dX12_init_77 : decode cX12_init 77 = .ok (.ldc2_w 44, 3) := by decide +kernel
theorem dX12_init_80 : decode cX12_init 80 = .ok (.lastore, 1) := by decide +kernel
theorem dX12_init_81 : decode cX12_init 81 = .ok (.dup, 1) := by decide +kernel
theorem dX12_init_82 : decode cX12_init 82 = .ok (.bipush 6, 2) := by decide +kernel
theorem dX12_init_84 : decode cX12_init 84 = .ok (.ldc2_w 46, 3) := by decide +kernel
theorem dX12_init_87 : decode cX12_init 87 = .ok (.lastore, 1) := by decide +kernel
theorem dX12_init_88 : decode cX12_init 88 = .ok (.dup, 1) := by decide +kernel
theorem dX12_init_89 : decode cX12_init 89 = .ok (.bipush 7, 2) := by decide +kernel
theorem dX12_init_91 : decode cX12_init 91 = .ok (.ldc2_w 48, 3) := by decide +kernel
theorem dX12_init_94 : decode cX12_init 94 = .ok (.lastore, 1) := by decide +kernel
theorem dX12_init_95 : decode cX12_init 95 = .ok (.dup, 1) := by decide +kernel
theorem dX12_init_96 : decode cX12_init 96 = .ok (.bipush 8, 2) := by decide +kernel
theorem dX12_init_98 : decode cX12_init 98 = .ok (.ldc2_w 50, 3) := by decide +kernel
theorem dX12_init_101 : decode cX12_init 101 = .ok (.lastore, 1) := by decide +kernel
theorem dX12_init_102 : decode cX12_init 102 = .ok (.dup, 1) := by decide +kernel
theorem dX12_init_103 : decode cX12_init 103 = .ok (.bipush 9, 2) := by decide +kernel
theorem dX12_init_105 : decode cX12_init 105 = .ok (.ldc2_w 52, 3) := by decide +kernel
theorem dX12_init_108 : decode cX12_init 108 = .ok (.lastore, 1) := by decide +kernel
theorem dX12_init_109 : decode cX12_init 109 = .ok (.dup, 1) := by decide +kernel
theorem dX12_init_110 : decode cX12_init 110 = .ok (.bipush 10, 2) := by decide +kernel
theorem dX12_init_112 : decode cX12_init 112 = .ok (.ldc2_w 54, 3) := by decide +kernel
theorem dX12_init_115 : decode cX12_init 115 = .ok (.lastore, 1) := by decide +kernel
theorem dX12_init_116 : decode cX12_init 116 = .ok (.dup, 1) := by decide +kernel
theorem dX12_init_117 : decode cX12_init 117 = .ok (.bipush 11, 2) := by decide +kernel
theorem dX12_init_119 : decode cX12_init 119 = .ok (.ldc2_w 56, 3) := by decide +kernel
theorem dX12_init_122 : decode cX12_init 122 = .ok (.lastore, 1) := by decide +kernel
theorem dX12_init_123 : decode cX12_init 123 = .ok (.dup, 1) := by decide +kernel
theorem dX12_init_124 : decode cX12_init 124 = .ok (.bipush 12, 2) := by decide +kernel
theorem dX12_init_126 : decode cX12_init 126 = .ok (.ldc2_w 58, 3) := by decide +kernel
theorem dX12_init_129 : decode cX12_init 129 = .ok (.lastore, 1) := by decide +kernel
theorem dX12_init_130 : decode cX12_init 130 = .ok (.dup, 1) := by decide +kernel
theorem dX12_init_131 : decode cX12_init 131 = .ok (.bipush 13, 2) := by decide +kernel
theorem dX12_init_133 : decode cX12_init 133 = .ok (.ldc2_w 60, 3) := by decide +kernel
theorem dX12_init_136 : decode cX12_init 136 = .ok (.lastore, 1) := by decide +kernel
theorem dX12_init_137 : decode cX12_init 137 = .ok (.dup, 1) := by decide +kernel
theorem dX12_init_138 : decode cX12_init 138 = .ok (.bipush 14, 2) := by decide +kernel
theorem dX12_init_140 : decode cX12_init 140 = .ok (.ldc2_w 62, 3) := by decide +kernel
theorem dX12_init_143 : decode cX12_init 143 = .ok (.lastore, 1) := by decide +kernel
theorem dX12_init_144 : decode cX12_init 144 = .ok (.dup, 1) := by decide +kernel
theorem dX12_init_145 : decode cX12_init 145 = .ok (.bipush 15, 2) := by decide +kernel
theorem dX12_init_147 : decode cX12_init 147 = .ok (.ldc2_w 64, 3) := by decide +kernel
theorem dX12_init_150 : decode cX12_init 150 = .ok (.lastore, 1) := by decide +kernel
theorem dX12_init_151 : decode cX12_init 151 = .ok (.dup, 1) := by decide +kernel
theorem dX12_init_152 : decode cX12_init 152 = .ok (.bipush 16, 2) := by decide +kernel
theorem dX12_init_154 : decode cX12_init 154 = .ok (.ldc2_w 66, 3) := by decide +kernel
theorem dX12_init_157 : decode cX12_init 157 = .ok (.lastore, 1) := by decide +kernel
theorem dX12_init_158 : decode cX12_init 158 = .ok (.dup, 1) := by decide +kernel
theorem dX12_init_159 : decode cX12_init 159 = .ok (.bipush 17, 2) := by decide +kernel
theorem dX12_init_161 : decode cX12_init 161 = .ok (.ldc2_w 68, 3) := by decide +kernel
theorem dX12_init_164 : decode cX12_init 164 = .ok (.lastore, 1) := by decide +kernel
theorem dX12_init_165 : decode cX12_init 165 = .ok (.dup, 1) := by decide +kernel
theorem dX12_init_166 : decode cX12_init 166 = .ok (.bipush 18, 2) := by decide +kernel
theorem dX12_init_168 : decode cX12_init 168 = .ok (.ldc2_w 70, 3) := by decide +kernel
theorem dX12_init_171 : decode cX12_init 171 = .ok (.lastore, 1) := by decide +kernel
theorem dX12_init_172 : decode cX12_init 172 = .ok (.dup, 1) := by decide +kernel
theorem dX12_init_173 : decode cX12_init 173 = .ok (.bipush 19, 2) := by decide +kernel
theorem dX12_init_175 : decode cX12_init 175 = .ok (.ldc2_w 72, 3) := by decide +kernel
theorem dX12_init_178 : decode cX12_init 178 = .ok (.lastore, 1) := by decide +kernel
theorem dX12_init_179 : decode cX12_init 179 = .ok (.dup, 1) := by decide +kernel
theorem dX12_init_180 : decode cX12_init 180 = .ok (.bipush 20, 2) := by decide +kernel
theorem dX12_init_182 : decode cX12_init 182 = .ok (.ldc2_w 74, 3) := by decide +kernel
theorem dX12_init_185 : decode cX12_init 185 = .ok (.lastore, 1) := by decide +kernel
theorem dX12_init_186 : decode cX12_init 186 = .ok (.dup, 1) := by decide +kernel
theorem dX12_init_187 : decode cX12_init 187 = .ok (.bipush 21, 2) := by decide +kernel
theorem dX12_init_189 : decode cX12_init 189 = .ok (.ldc2_w 76, 3) := by decide +kernel
theorem dX12_init_192 : decode cX12_init 192 = .ok (.lastore, 1) := by decide +kernel
theorem dX12_init_193 : decode cX12_init 193 = .ok (.dup, 1) := by decide +kernel
theorem dX12_init_194 : decode cX12_init 194 = .ok (.bipush 22, 2) := by decide +kernel
theorem dX12_init_196 : decode cX12_init 196 = .ok (.ldc2_w 78, 3) := by decide +kernel
theorem dX12_init_199 : decode cX12_init 199 = .ok (.lastore, 1) := by decide +kernel
theorem dX12_init_200 : decode cX12_init 200 = .ok (.dup, 1) := by decide +kernel
theorem dX12_init_201 : decode cX12_init 201 = .ok (.bipush 23, 2) := by decide +kernel
theorem dX12_init_203 : decode cX12_init 203 = .ok (.ldc2_w 80, 3) := by decide +kernel
theorem dX12_init_206 : decode cX12_init 206 = .ok (.lastore, 1) := by decide +kernel
theorem dX12_init_207 : decode cX12_init 207 = .ok (.dup, 1) := by decide +kernel
theorem dX12_init_208 : decode cX12_init 208 = .ok (.bipush 24, 2) := by decide +kernel
theorem dX12_init_210 : decode cX12_init 210 = .ok (.ldc2_w 82, 3) := by decide +kernel
theorem dX12_init_213 : decode cX12_init 213 = .ok (.lastore, 1) := by decide +kernel
theorem dX12_init_214 : decode cX12_init 214 = .ok (.dup, 1) := by decide +kernel
theorem dX12_init_215 : decode cX12_init 215 = .ok (.bipush 25, 2) := by decide +kernel
theorem dX12_init_217 : decode cX12_init 217 = .ok (.ldc2_w 84, 3) := by decide +kernel
theorem dX12_init_220 : decode cX12_init 220 = .ok (.lastore, 1) := by decide +kernel
theorem dX12_init_221 : decode cX12_init 221 = .ok (.dup, 1) := by decide +kernel
theorem dX12_init_222 : decode cX12_init 222 = .ok (.bipush 26, 2) := by decide +kernel
theorem dX12_init_224 : decode cX12_init 224 = .ok (.ldc2_w 86, 3) := by decide +kernel
theorem dX12_init_227 : decode cX12_init 227 = .ok (.lastore, 1) := by decide +kernel
theorem dX12_init_228 : decode cX12_init 228 = .ok (.dup, 1) := by decide +kernel
theorem dX12_init_229 : decode cX12_init 229 = .ok (.bipush 27, 2) := by decide +kernel
theorem dX12_init_231 : decode cX12_init 231 = .ok (.ldc2_w 88, 3) := by decide +kernel
theorem dX12_init_234 : decode cX12_init 234 = .ok (.lastore, 1) := by decide +kernel
theorem dX12_init_235 : decode cX12_init 235 = .ok (.dup, 1) := by decide +kernel
theorem dX12_init_236 : decode cX12_init 236 = .ok (.bipush 28, 2) := by decide +kernel
theorem dX12_init_238 : decode cX12_init 238 = .ok (.ldc2_w 90, 3) := by decide +kernel
theorem dX12_init_241 : decode cX12_init 241 = .ok (.lastore, 1) := by decide +kernel
theorem dX12_init_242 : decode cX12_init 242 = .ok (.dup, 1) := by decide +kernel
theorem dX12_init_243 : decode cX12_init 243 = .ok (.bipush 29, 2) := by decide +kernel
theorem dX12_init_245 : decode cX12_init 245 = .ok (.ldc2_w 92, 3) := by decide +kernel
theorem dX12_init_248 : decode cX12_init 248 = .ok (.lastore, 1) := by decide +kernel
theorem dX12_init_249 : decode cX12_init 249 = .ok (.putfield 94, 3) := by decide +kernel
theorem dX12_init_252 : decode cX12_init 252 = .ok (.aload_n 0, 1) := by decide +kernel
theorem dX12_init_253 : decode cX12_init 253 = .ok (.sipush 320, 3) := by decide +kernel
theorem dX12_init_256 : decode cX12_init 256 = .ok (.newarray .int, 2) := by decide +kernel
theorem dX12_init_258 : decode cX12_init 258 = .ok (.putfield 97, 3) := by decide +kernel
theorem dX12_init_261 : decode cX12_init 261 = .ok (.aload_n 0, 1) := by decide +kernel
theorem dX12_init_262 : decode cX12_init 262 = .ok (.bipush 36, 2) := by decide +kernel
theorem dX12_init_264 : decode cX12_init 264 = .ok (.newarray .int, 2) := by decide +kernel
theorem dX12_init_266 : decode cX12_init 266 = .ok (.putfield 100, 3) := by decide +kernel
theorem dX12_init_269 : decode cX12_init 269 = .ok (.aload_n 0, 1) := by decide +kernel
theorem dX12_init_270 : decode cX12_init 270 = .ok (.sipush 2200, 3) := by decide +kernel
theorem dX12_init_273 : decode cX12_init 273 = .ok (.newarray .int, 2) := by decide +kernel
theorem dX12_init_275 : decode cX12_init 275 = .ok (.putfield 103, 3) := by decide +kernel
theorem dX12_init_278 : decode cX12_init 278 = .ok (.aload_n 0, 1) := by decide +kernel
theorem dX12_init_279 : decode cX12_init 279 = .ok (.sipush 2200, 3) := by decide +kernel
theorem dX12_init_282 : decode cX12_init 282 = .ok (.newarray .int, 2) := by decide +kernel
theorem dX12_init_284 : decode cX12_init 284 = .ok (.putfield 106, 3) := by decide +kernel
theorem dX12_init_287 : decode cX12_init 287 = .ok (.aload_n 0, 1) := by decide +kernel
theorem dX12_init_288 : decode cX12_init 288 = .ok (.bipush 13, 2) := by decide +kernel
theorem dX12_init_290 : decode cX12_init 290 = .ok (.newarray .long, 2) := by decide +kernel
theorem dX12_init_292 : decode cX12_init 292 = .ok (.putfield 109, 3) := by decide +kernel
theorem dX12_init_295 : decode cX12_init 295 = .ok (.aload_n 0, 1) := by decide +kernel
theorem dX12_init_296 : decode cX12_init 296 = .ok (.bipush 13, 2) := by decide +kernel
theorem dX12_init_298 : decode cX12_init 298 = .ok (.newarray .int, 2) := by decide +kernel
theorem dX12_init_300 : decode cX12_init 300 = .ok (.putfield 112, 3) := by decide +kernel
theorem dX12_init_303 : decode cX12_init 303 = .ok (.aload_n 0, 1) := by decide +kernel
theorem dX12_init_304 : decode cX12_init 304 = .ok (.iconst 5, 1) := by decide +kernel
theorem dX12_init_305 : decode cX12_init 305 = .ok (.newarray .int, 2) := by decide +kernel
theorem dX12_init_307 : decode cX12_init 307 = .ok (.dup, 1) := by decide +kernel
theorem dX12_init_308 : decode cX12_init 308 = .ok (.iconst 0, 1) := by decide +kernel
theorem dX12_init_309 : decode cX12_init 309 = .ok (.bipush 9, 2) := by decide +kernel
theorem dX12_init_311 : decode cX12_init 311 = .ok (.iastore, 1) := by decide +kernel
theorem dX12_init_312 : decode cX12_init 312 = .ok (.dup, 1) := by decide +kernel
theorem dX12_init_313 : decode cX12_init 313 = .ok (.iconst 1, 1) := by decide +kernel
theorem dX12_init_314 : decode cX12_init 314 = .ok (.bipush 25, 2) := by decide +kernel
theorem dX12_init_316 : decode cX12_init 316 = .ok (.iastore, 1) := by decide +kernel
theorem dX12_init_317 : decode cX12_init 317 = .ok (.dup, 1) := by decide +kernel
theorem dX12_init_318 : decode cX12_init 318 = .ok (.iconst 2, 1) := by decide +kernel
theorem dX12_init_319 : decode cX12_init 319 = .ok (.iconst 1, 1) := by decide +kernel
theorem dX12_init_320 : decode cX12_init 320 = .ok (.iastore, 1) := by decide +kernel
theorem dX12_init_321 : decode cX12_init 321 = .ok (.dup, 1) := by decide +kernel
theorem dX12_init_322 : decode cX12_init 322 = .ok (.iconst 3, 1) := by decide +kernel
theorem dX12_init_323 : decode cX12_init 323 = .ok (.bipush 26, 2) := by decide +kernel
theorem dX12_init_325 : decode cX12_init 325 = .ok (.iastore, 1) := by decide +kernel
theorem dX12_init_326 : decode cX12_init 326 = .ok (.dup, 1) := by decide +kernel
theorem dX12_init_327 : decode cX12_init 327 = .ok (.iconst 4, 1) := by decide +kernel
theorem dX12_init_328 : decode cX12_init 328 = .ok (.bipush 27, 2) := by decide +kernel
theorem dX12_init_330 : decode cX12_init 330 = .ok (.iastore, 1) := by decide +kernel
theorem dX12_init_331 : decode cX12_init 331 = .ok (.putfield 115, 3) := by decide +kernel
theorem dX12_init_334 : decode cX12_init 334 = .ok (.aload_n 0, 1) := by decide +kernel
theorem dX12_init_335 : decode cX12_init 335 = .ok (.iconst 2, 1) := by decide +kernel
theorem dX12_init_336 : decode cX12_init 336 = .ok (.newarray .int, 2) := by decide +kernel
theorem dX12_init_338 : decode cX12_init 338 = .ok (.dup, 1) := by decide +kernel
theorem dX12_init_339 : decode cX12_init 339 = .ok (.iconst 0, 1) := by decide +kernel
theorem dX12_init_340 : decode cX12_init 340 = .ok (.bipush 28, 2) := by decide +kernel
theorem dX12_init_342 : decode cX12_init 342 = .ok (.iastore, 1) := by decide +kernel
theorem dX12_init_343 : decode cX12_init 343 = .ok (.dup, 1) := by decide +kernel
theorem dX12_init_344 : decode cX12_init 344 = .ok (.iconst 1, 1) := by decide +kernel
theorem dX12_init_345 : decode cX12_init 345 = .ok (.bipush 29, 2) := by decide +kernel
theorem dX12_init_347 : decode cX12_init 347 = .ok (.iastore, 1) := by decide +kernel
theorem dX12_init_348 : decode cX12_init 348 = .ok (.putfield 118, 3) := by decide +kernel
theorem dX12_init_351 : decode cX12_init 351 = .ok (.aload_n 0, 1) := by decide +kernel
theorem dX12_init_352 : decode cX12_init 352 = .ok (.iconst 5, 1) := by decide +kernel
theorem dX12_init_353 : decode cX12_init 353 = .ok (.newarray .int, 2) := by decide +kernel
theorem dX12_init_355 : decode cX12_init 355 = .ok (.putfield 121, 3) := by decide +kernel
theorem dX12_init_358 : decode cX12_init 358 = .ok (.aload_n 0, 1) := by decide +kernel
theorem dX12_init_359 : decode cX12_init 359 = .ok (.sipush 1100, 3) := by decide +kernel
theorem dX12_init_362 : decode cX12_init 362 = .ok (.newarray .int, 2) := by decide +kernel
theorem dX12_init_364 : decode cX12_init 364 = .ok (.putfield 124, 3) := by decide +kernel
theorem dX12_init_367 : decode cX12_init 367 = .ok (.aload_n 0, 1) := by decide +kernel
theorem dX12_init_368 : decode cX12_init 368 = .ok (.sipush 6000, 3) := by decide +kernel
theorem dX12_init_371 : decode cX12_init 371 = .ok (.newarray .int, 2) := by decide +kernel
theorem dX12_init_373 : decode cX12_init 373 = .ok (.putfield 127, 3) := by decide +kernel
theorem dX12_init_376 : decode cX12_init 376 = .ok (.aload_n 0, 1) := by decide +kernel
theorem dX12_init_377 : decode cX12_init 377 = .ok (.iconst 4, 1) := by decide +kernel
theorem dX12_init_378 : decode cX12_init 378 = .ok (.newarray .boolean, 2) := by decide +kernel
theorem dX12_init_380 : decode cX12_init 380 = .ok (.putfield 130, 3) := by decide +kernel
theorem dX12_init_383 : decode cX12_init 383 = .ok (.aload_n 0, 1) := by decide +kernel
theorem dX12_init_384 : decode cX12_init 384 = .ok (.sipush 3200, 3) := by decide +kernel
theorem dX12_init_387 : decode cX12_init 387 = .ok (.newarray .int, 2) := by decide +kernel
theorem dX12_init_389 : decode cX12_init 389 = .ok (.putfield 134, 3) := by decide +kernel
theorem dX12_init_392 : decode cX12_init 392 = .ok (.aload_n 0, 1) := by decide +kernel
theorem dX12_init_393 : decode cX12_init 393 = .ok (.bipush 7, 2) := by decide +kernel
theorem dX12_init_395 : decode cX12_init 395 = .ok (.newarray .int, 2) := by decide +kernel
theorem dX12_init_397 : decode cX12_init 397 = .ok (.putfield 137, 3) := by decide +kernel
theorem dX12_init_400 : decode cX12_init 400 = .ok (.aload_n 0, 1) := by decide +kernel
theorem dX12_init_401 : decode cX12_init 401 = .ok (.sipush 726, 3) := by decide +kernel
theorem dX12_init_404 : decode cX12_init 404 = .ok (.newarray .int, 2) := by decide +kernel
theorem dX12_init_406 : decode cX12_init 406 = .ok (.putfield 140, 3) := by decide +kernel
theorem dX12_init_409 : decode cX12_init 409 = .ok (.aload_n 0, 1) := by decide +kernel
theorem dX12_init_410 : decode cX12_init 410 = .ok (.sipush 1407, 3) := by decide +kernel
theorem dX12_init_413 : decode cX12_init 413 = .ok (.newarray .int, 2) := by decide +kernel
theorem dX12_init_415 : decode cX12_init 415 = .ok (.putfield 143, 3) := by decide +kernel
theorem dX12_init_418 : decode cX12_init 418 = .ok (.aload_n 0, 1) := by decide +kernel
theorem dX12_init_419 : decode cX12_init 419 = .ok (.bipush 6, 2) := by decide +kernel
theorem dX12_init_421 : decode cX12_init 421 = .ok (.newarray .int, 2) := by decide +kernel
theorem dX12_init_423 : decode cX12_init 423 = .ok (.putfield 146, 3) := by decide +kernel
theorem dX12_init_426 : decode cX12_init 426 = .ok (.aload_n 0, 1) := by decide +kernel
theorem dX12_init_427 : decode cX12_init 427 = .ok (.bipush 7, 2) := by decide +kernel
theorem dX12_init_429 : decode cX12_init 429 = .ok (.newarray .int, 2) := by decide +kernel
theorem dX12_init_431 : decode cX12_init 431 = .ok (.putfield 149, 3) := by decide +kernel
theorem dX12_init_434 : decode cX12_init 434 = .ok (.aload_n 0, 1) := by decide +kernel
theorem dX12_init_435 : decode cX12_init 435 = .ok (.bipush 7, 2) := by decide +kernel
theorem dX12_init_437 : decode cX12_init 437 = .ok (.newarray .int, 2) := by decide +kernel
theorem dX12_init_439 : decode cX12_init 439 = .ok (.putfield 152, 3) := by decide +kernel
theorem dX12_init_442 : decode cX12_init 442 = .ok (.aload_n 0, 1) := by decide +kernel
theorem dX12_init_443 : decode cX12_init 443 = .ok (.bipush 64, 2) := by decide +kernel
theorem dX12_init_445 : decode cX12_init 445 = .ok (.newarray .int, 2) := by decide +kernel
theorem dX12_init_447 : decode cX12_init 447 = .ok (.putfield 155, 3) := by decide +kernel
theorem dX12_init_450 : decode cX12_init 450 = .ok (.aload_n 0, 1) := by decide +kernel
theorem dX12_init_451 : decode cX12_init 451 = .ok (.iconst 0, 1) := by decide +kernel
theorem dX12_init_452 : decode cX12_init 452 = .ok (.invokevirtual 158, 3) := by decide +kernel
theorem dX12_init_455 : decode cX12_init 455 = .ok (.aload_n 0, 1) := by decide +kernel
theorem dX12_init_456 : decode cX12_init 456 = .ok (.invokevirtual 162, 3) := by decide +kernel
theorem dX12_init_459 : decode cX12_init 459 = .ok (.return_, 1) := by decide +kernel
theorem dX12_isLetter_0 : decode cX12_isLetter 0 = .ok (.iload_n 0, 1) := by decide +kernel
theorem dX12_isLetter_1 : decode cX12_isLetter 1 = .ok (.bipush 97, 2) := by decide +kernel
theorem dX12_isLetter_3 : decode cX12_isLetter 3 = .ok (.if_icmp .lt 13, 3) := by decide +kernel
theorem dX12_isLetter_6 : decode cX12_isLetter 6 = .ok (.iload_n 0, 1) := by decide +kernel
theorem dX12_isLetter_7 : decode cX12_isLetter 7 = .ok (.bipush 122, 2) := by decide +kernel
theorem dX12_isLetter_9 : decode cX12_isLetter 9 = .ok (.if_icmp .gt 7, 3) := by decide +kernel
theorem dX12_isLetter_12 : decode cX12_isLetter 12 = .ok (.iconst 1, 1) := by decide +kernel
theorem dX12_isLetter_13 : decode cX12_isLetter 13 = .ok (.goto 4, 3) := by decide +kernel
theorem dX12_isLetter_16 : decode cX12_isLetter 16 = .ok (.iconst 0, 1) := by decide +kernel
theorem dX12_isLetter_17 : decode cX12_isLetter 17 = .ok (.ireturn, 1) := by decide +kernel
theorem dX12_isDigit_0 : decode cX12_isDigit 0 = .ok (.iload_n 0, 1) := by decide +kernel
theorem dX12_isDigit_1 : decode cX12_isDigit 1 = .ok (.bipush 48, 2) := by decide +kernel
theorem dX12_isDigit_3 : decode cX12_isDigit 3 = .ok (.if_icmp .lt 13, 3) := by decide +kernel
theorem dX12_isDigit_6 : decode cX12_isDigit 6 = .ok (.iload_n 0, 1) := by decide +kernel
theorem dX12_isDigit_7 : decode cX12_isDigit 7 = .ok (.bipush 57, 2) := by decide +kernel
theorem dX12_isDigit_9 : decode cX12_isDigit 9 = .ok (.if_icmp .gt 7, 3) := by decide +kernel
theorem dX12_isDigit_12 : decode cX12_isDigit 12 = .ok (.iconst 1, 1) := by decide +kernel
theorem dX12_isDigit_13 : decode cX12_isDigit 13 = .ok (.goto 4, 3) := by decide +kernel
theorem dX12_isDigit_16 : decode cX12_isDigit 16 = .ok (.iconst 0, 1) := by decide +kernel
theorem dX12_isDigit_17 : decode cX12_isDigit 17 = .ok (.ireturn, 1) := by decide +kernel
theorem dX12_rank_0 : decode cX12_rank 0 = .ok (.iload_n 0, 1) := by decide +kernel
theorem dX12_rank_1 : decode cX12_rank 1 = .ok (.invokestatic 165, 3) := by decide +kernel
theorem dX12_rank_4 : decode cX12_rank 4 = .ok (.ifCond .eq 10, 3) := by decide +kernel
theorem dX12_rank_7 : decode cX12_rank 7 = .ok (.iload_n 0, 1) := by decide +kernel
theorem dX12_rank_8 : decode cX12_rank 8 = .ok (.bipush 96, 2) := by decide +kernel
theorem dX12_rank_10 : decode cX12_rank 10 = .ok (.isub, 1) := by decide +kernel
theorem dX12_rank_11 : decode cX12_rank 11 = .ok (.goto 7, 3) := by decide +kernel
theorem dX12_rank_14 : decode cX12_rank 14 = .ok (.iload_n 0, 1) := by decide +kernel
theorem dX12_rank_15 : decode cX12_rank 15 = .ok (.bipush 21, 2) := by decide +kernel
theorem dX12_rank_17 : decode cX12_rank 17 = .ok (.isub, 1) := by decide +kernel
theorem dX12_rank_18 : decode cX12_rank 18 = .ok (.ireturn, 1) := by decide +kernel
theorem dX12_isSignOf_0 : decode cX12_isSignOf 0 = .ok (.iload_n 0, 1) := by decide +kernel
theorem dX12_isSignOf_1 : decode cX12_isSignOf 1 = .ok (.bipush 40, 2) := by decide +kernel
theorem dX12_isSignOf_3 : decode cX12_isSignOf 3 = .ok (.if_icmp .eq 45, 3) := by decide +kernel
theorem dX12_isSignOf_6 : decode cX12_isSignOf 6 = .ok (.iload_n 0, 1) := by decide +kernel
theorem dX12_isSignOf_7 : decode cX12_isSignOf 7 = .ok (.bipush 41, 2) := by decide +kernel
theorem dX12_isSignOf_9 : decode cX12_isSignOf 9 = .ok (.if_icmp .eq 39, 3) := by decide +kernel
theorem dX12_isSignOf_12 : decode cX12_isSignOf 12 = .ok (.iload_n 0, 1) := by decide +kernel
theorem dX12_isSignOf_13 : decode cX12_isSignOf 13 = .ok (.bipush 59, 2) := by decide +kernel
theorem dX12_isSignOf_15 : decode cX12_isSignOf 15 = .ok (.if_icmp .eq 33, 3) := by decide +kernel
theorem dX12_isSignOf_18 : decode cX12_isSignOf 18 = .ok (.iload_n 0, 1) := by decide +kernel
theorem dX12_isSignOf_19 : decode cX12_isSignOf 19 = .ok (.bipush 61, 2) := by decide +kernel
theorem dX12_isSignOf_21 : decode cX12_isSignOf 21 = .ok (.if_icmp .eq 27, 3) := by decide +kernel
theorem dX12_isSignOf_24 : decode cX12_isSignOf 24 = .ok (.iload_n 0, 1) := by decide +kernel
theorem dX12_isSignOf_25 : decode cX12_isSignOf 25 = .ok (.bipush 60, 2) := by decide +kernel
theorem dX12_isSignOf_27 : decode cX12_isSignOf 27 = .ok (.if_icmp .eq 21, 3) := by decide +kernel
theorem dX12_isSignOf_30 : decode cX12_isSignOf 30 = .ok (.iload_n 0, 1) := by decide +kernel
theorem dX12_isSignOf_31 : decode cX12_isSignOf 31 = .ok (.bipush 43, 2) := by decide +kernel
theorem dX12_isSignOf_33 : decode cX12_isSignOf 33 = .ok (.if_icmp .eq 15, 3) := by decide +kernel
theorem dX12_isSignOf_36 : decode cX12_isSignOf 36 = .ok (.iload_n 0, 1) := by decide +kernel
theorem dX12_isSignOf_37 : decode cX12_isSignOf 37 = .ok (.bipush 45, 2) := by decide +kernel
theorem dX12_isSignOf_39 : decode cX12_isSignOf 39 = .ok (.if_icmp .eq 9, 3) := by decide +kernel
theorem dX12_isSignOf_42 : decode cX12_isSignOf 42 = .ok (.iload_n 0, 1) := by decide +kernel
theorem dX12_isSignOf_43 : decode cX12_isSignOf 43 = .ok (.bipush 42, 2) := by decide +kernel
theorem dX12_isSignOf_45 : decode cX12_isSignOf 45 = .ok (.if_icmp .ne 7, 3) := by decide +kernel
theorem dX12_isSignOf_48 : decode cX12_isSignOf 48 = .ok (.iconst 1, 1) := by decide +kernel
theorem dX12_isSignOf_49 : decode cX12_isSignOf 49 = .ok (.goto 4, 3) := by decide +kernel
theorem dX12_isSignOf_52 : decode cX12_isSignOf 52 = .ok (.iconst 0, 1) := by decide +kernel
theorem dX12_isSignOf_53 : decode cX12_isSignOf 53 = .ok (.ireturn, 1) := by decide +kernel
theorem dX12_cutAll_0 : decode cX12_cutAll 0 = .ok (.aload_n 0, 1) := by decide +kernel
theorem dX12_cutAll_1 : decode cX12_cutAll 1 = .ok (.aload_n 0, 1) := by decide +kernel
theorem dX12_cutAll_2 : decode cX12_cutAll 2 = .ok (.getfield 11, 3) := by decide +kernel
theorem dX12_cutAll_5 : decode cX12_cutAll 5 = .ok (.putfield 169, 3) := by decide +kernel
theorem dX12_cutAll_8 : decode cX12_cutAll 8 = .ok (.aload_n 0, 1) := by decide +kernel
theorem dX12_cutAll_9 : decode cX12_cutAll 9 = .ok (.iconst 0, 1) := by decide +kernel
theorem dX12_cutAll_10 : decode cX12_cutAll 10 = .ok (.putfield 11, 3) := by decide +kernel
theorem dX12_cutAll_13 : decode cX12_cutAll 13 = .ok (.iconst 0, 1) := by decide +kernel
theorem dX12_cutAll_14 : decode cX12_cutAll 14 = .ok (.istore_n 1, 1) := by decide +kernel
theorem dX12_cutAll_15 : decode cX12_cutAll 15 = .ok (.iconst 0, 1) := by decide +kernel
theorem dX12_cutAll_16 : decode cX12_cutAll 16 = .ok (.istore_n 2, 1) := by decide +kernel
theorem dX12_cutAll_17 : decode cX12_cutAll 17 = .ok (.iload_n 2, 1) := by decide +kernel
theorem dX12_cutAll_18 : decode cX12_cutAll 18 = .ok (.aload_n 0, 1) := by decide +kernel
theorem dX12_cutAll_19 : decode cX12_cutAll 19 = .ok (.getfield 169, 3) := by decide +kernel
theorem dX12_cutAll_22 : decode cX12_cutAll 22 = .ok (.if_icmp .ge 257, 3) := by decide +kernel
theorem dX12_cutAll_25 : decode cX12_cutAll 25 = .ok (.aload_n 0, 1) := by decide +kernel
theorem dX12_cutAll_26 : decode cX12_cutAll 26 = .ok (.getfield 14, 3) := by decide +kernel
theorem dX12_cutAll_29 : decode cX12_cutAll 29 = .ok (.iload_n 2, 1) := by decide +kernel
theorem dX12_cutAll_30 : decode cX12_cutAll 30 = .ok (.iaload, 1) := by decide +kernel
theorem dX12_cutAll_31 : decode cX12_cutAll 31 = .ok (.istore_n 3, 1) := by decide +kernel
theorem dX12_cutAll_32 : decode cX12_cutAll 32 = .ok (.iload_n 3, 1) := by decide +kernel
theorem dX12_cutAll_33 : decode cX12_cutAll 33 = .ok (.bipush 10, 2) := by decide +kernel
theorem dX12_cutAll_35 : decode cX12_cutAll 35 = .ok (.if_icmp .eq 9, 3) := by decide +kernel
theorem dX12_cutAll_38 : decode cX12_cutAll 38 = .ok (.iload_n 3, 1) := by decide +kernel
theorem dX12_cutAll_39 : decode cX12_cutAll 39 = .ok (.bipush 32, 2) := by decide +kernel
theorem dX12_cutAll_41 : decode cX12_cutAll 41 = .ok (.if_icmp .ne 9, 3) := by decide +kernel
theorem dX12_cutAll_44 : decode cX12_cutAll 44 = .ok (.iinc 2 1, 3) := by decide +kernel
theorem dX12_cutAll_47 : decode cX12_cutAll 47 = .ok (.goto (-30), 3) := by decide +kernel
theorem dX12_cutAll_50 : decode cX12_cutAll 50 = .ok (.iload_n 2, 1) := by decide +kernel
theorem dX12_cutAll_51 : decode cX12_cutAll 51 = .ok (.istore 4, 2) := by decide +kernel
theorem dX12_cutAll_53 : decode cX12_cutAll 53 = .ok (.lconst 0, 1) := by decide +kernel
theorem dX12_cutAll_54 : decode cX12_cutAll 54 = .ok (.lstore 5, 2) := by decide +kernel
theorem dX12_cutAll_56 : decode cX12_cutAll 56 = .ok (.aload_n 0, 1) := by decide +kernel
theorem dX12_cutAll_57 : decode cX12_cutAll 57 = .ok (.getfield 27, 3) := by decide +kernel
theorem dX12_cutAll_60 : decode cX12_cutAll 60 = .ok (.iload_n 1, 1) := by decide +kernel
theorem dX12_cutAll_61 : decode cX12_cutAll 61 = .ok (.iload_n 2, 1) := by decide +kernel
theorem dX12_cutAll_62 : decode cX12_cutAll 62 = .ok (.iastore, 1) := by decide +kernel
theorem dX12_cutAll_63 : decode cX12_cutAll 63 = .ok (.iload_n 3, 1) := by decide +kernel
theorem dX12_cutAll_64 : decode cX12_cutAll 64 = .ok (.invokestatic 165, 3) := by decide +kernel
theorem dX12_cutAll_67 : decode cX12_cutAll 67 = .ok (.ifCond .eq 85, 3) := by decide +kernel
theorem dX12_cutAll_70 : decode cX12_cutAll 70 = .ok (.iload_n 2, 1) := by decide +kernel
theorem dX12_cutAll_71 : decode cX12_cutAll 71 = .ok (.aload_n 0, 1) := by decide +kernel
theorem dX12_cutAll_72 : decode cX12_cutAll 72 = .ok (.getfield 169, 3) := by decide +kernel
theorem dX12_cutAll_75 : decode cX12_cutAll 75 = .ok (.if_icmp .ge 54, 3) := by decide +kernel
theorem dX12_cutAll_78 : decode cX12_cutAll 78 = .ok (.aload_n 0, 1) := by decide +kernel
theorem dX12_cutAll_79 : decode cX12_cutAll 79 = .ok (.getfield 14, 3) := by decide +kernel
theorem dX12_cutAll_82 : decode cX12_cutAll 82 = .ok (.iload_n 2, 1) := by decide +kernel
theorem dX12_cutAll_83 : decode cX12_cutAll 83 = .ok (.iaload, 1) := by decide +kernel
theorem dX12_cutAll_84 : decode cX12_cutAll 84 = .ok (.invokestatic 165, 3) := by decide +kernel
theorem dX12_cutAll_87 : decode cX12_cutAll 87 = .ok (.ifCond .eq 42, 3) := by decide +kernel
theorem dX12_cutAll_90 : decode cX12_cutAll 90 = .ok (.iload_n 2, 1) := by decide +kernel
theorem dX12_cutAll_91 : decode cX12_cutAll 91 = .ok (.iload 4, 2) := by decide +kernel
theorem dX12_cutAll_93 : decode cX12_cutAll 93 = .ok (.isub, 1) := by decide +kernel
theorem dX12_cutAll_94 : decode cX12_cutAll 94 = .ok (.bipush 8, 2) := by decide +kernel
theorem dX12_cutAll_96 : decode cX12_cutAll 96 = .ok (.if_icmp .ge 23, 3) := by decide +kernel
theorem dX12_cutAll_99 : decode cX12_cutAll 99 = .ok (.ldc2_w 172, 3) := by decide +kernel
theorem dX12_cutAll_102 : decode cX12_cutAll 102 = .ok (.lload 5, 2) := by decide +kernel
theorem dX12_cutAll_104 : decode cX12_cutAll 104 = .ok (.lmul, 1) := by decide +kernel
theorem dX12_cutAll_105 : decode cX12_cutAll 105 = .ok (.aload_n 0, 1) := by decide +kernel
theorem dX12_cutAll_106 : decode cX12_cutAll 106 = .ok (.getfield 14, 3) := by decide +kernel
theorem dX12_cutAll_109 : decode cX12_cutAll 109 = .ok (.iload_n 2, 1) := by decide +kernel
theorem dX12_cutAll_110 : decode cX12_cutAll 110 = .ok (.iaload, 1) := by decide +kernel
theorem dX12_cutAll_111 : decode cX12_cutAll 111 = .ok (.invokestatic 174, 3) := by decide +kernel
theorem dX12_cutAll_114 : decode cX12_cutAll 114 = .ok (.i2l, 1) := by decide +kernel
theorem dX12_cutAll_115 : decode cX12_cutAll 115 = .ok (.ladd, 1) := by decide +kernel
theorem dX12_cutAll_116 : decode cX12_cutAll 116 = .ok (.goto 5, 3) := by decide +kernel
theorem dX12_cutAll_119 : decode cX12_cutAll 119 = .ok (.lload 5, 2) := by decide +kernel
theorem dX12_cutAll_121 : decode cX12_cutAll 121 = .ok (.lstore 5, 2) := by decide +kernel
theorem dX12_cutAll_123 : decode cX12_cutAll 123 = .ok (.iinc 2 1, 3) := by decide +kernel
theorem dX12_cutAll_126 : decode cX12_cutAll 126 = .ok (.goto (-56), 3) := by decide +kernel
theorem dX12_cutAll_129 : decode cX12_cutAll 129 = .ok (.aload_n 0, 1) := by decide +kernel
theorem dX12_cutAll_130 : decode cX12_cutAll 130 = .ok (.getfield 24, 3) := by decide +kernel
theorem dX12_cutAll_133 : decode cX12_cutAll 133 = .ok (.iload_n 1, 1) := by decide +kernel
theorem dX12_cutAll_134 : decode cX12_cutAll 134 = .ok (.iload_n 2, 1) := by decide +kernel
theorem dX12_cutAll_135 : decode cX12_cutAll 135 = .ok (.iload 4, 2) := by decide +kernel
theorem dX12_cutAll_137 : decode cX12_cutAll 137 = .ok (.isub, 1) := by decide +kernel
theorem dX12_cutAll_138 : decode cX12_cutAll 138 = .ok (.bipush 8, 2) := by decide +kernel
theorem dX12_cutAll_140 : decode cX12_cutAll 140 = .ok (.if_icmp .le 7, 3) := by decide +kernel
theorem dX12_cutAll_143 : decode cX12_cutAll 143 = .ok (.iconst 4, 1) := by decide +kernel
theorem dX12_cutAll_144 : decode cX12_cutAll 144 = .ok (.goto 4, 3) := by decide +kernel
theorem dX12_cutAll_147 : decode cX12_cutAll 147 = .ok (.iconst 1, 1) := by decide +kernel
theorem dX12_cutAll_148 : decode cX12_cutAll 148 = .ok (.iastore, 1) := by decide +kernel
theorem dX12_cutAll_149 : decode cX12_cutAll 149 = .ok (.goto 116, 3) := by decide +kernel
theorem dX12_cutAll_152 : decode cX12_cutAll 152 = .ok (.iload_n 3, 1) := by decide +kernel
theorem dX12_cutAll_153 : decode cX12_cutAll 153 = .ok (.invokestatic 178, 3) := by decide +kernel
theorem dX12_cutAll_156 : decode cX12_cutAll 156 = .ok (.ifCond .eq 84, 3) := by decide +kernel
theorem dX12_cutAll_159 : decode cX12_cutAll 159 = .ok (.iload_n 2, 1) := by decide +kernel
theorem dX12_cutAll_160 : decode cX12_cutAll 160 = .ok (.aload_n 0, 1) := by decide +kernel
theorem dX12_cutAll_161 : decode cX12_cutAll 161 = .ok (.getfield 169, 3) := by decide +kernel
theorem dX12_cutAll_164 : decode cX12_cutAll 164 = .ok (.if_icmp .ge 54, 3) := by decide +kernel
theorem dX12_cutAll_167 : decode cX12_cutAll 167 = .ok (.aload_n 0, 1) := by decide +kernel
theorem dX12_cutAll_168 : decode cX12_cutAll 168 = .ok (.getfield 14, 3) := by decide +kernel
theorem dX12_cutAll_171 : decode cX12_cutAll 171 = .ok (.iload_n 2, 1) := by decide +kernel
theorem dX12_cutAll_172 : decode cX12_cutAll 172 = .ok (.iaload, 1) := by decide +kernel
theorem dX12_cutAll_173 : decode cX12_cutAll 173 = .ok (.invokestatic 178, 3) := by decide +kernel
theorem dX12_cutAll_176 : decode cX12_cutAll 176 = .ok (.ifCond .eq 42, 3) := by decide +kernel
theorem dX12_cutAll_179 : decode cX12_cutAll 179 = .ok (.iload_n 2, 1) := by decide +kernel
theorem dX12_cutAll_180 : decode cX12_cutAll 180 = .ok (.iload 4, 2) := by decide +kernel
theorem dX12_cutAll_182 : decode cX12_cutAll 182 = .ok (.isub, 1) := by decide +kernel
theorem dX12_cutAll_183 : decode cX12_cutAll 183 = .ok (.iconst 4, 1) := by decide +kernel
theorem dX12_cutAll_184 : decode cX12_cutAll 184 = .ok (.if_icmp .ge 24, 3) := by decide +kernel
theorem dX12_cutAll_187 : decode cX12_cutAll 187 = .ok (.ldc2_w 181, 3) := by decide +kernel
theorem dX12_cutAll_190 : decode cX12_cutAll 190 = .ok (.lload 5, 2) := by decide +kernel
theorem dX12_cutAll_192 : decode cX12_cutAll 192 = .ok (.lmul, 1) := by decide +kernel
theorem dX12_cutAll_193 : decode cX12_cutAll 193 = .ok (.aload_n 0, 1) := by decide +kernel
theorem dX12_cutAll_194 : decode cX12_cutAll 194 = .ok (.getfield 14, 3) := by decide +kernel
theorem dX12_cutAll_197 : decode cX12_cutAll 197 = .ok (.iload_n 2, 1) := by decide +kernel
theorem dX12_cutAll_198 : decode cX12_cutAll 198 = .ok (.iaload, 1) := by decide +kernel
theorem dX12_cutAll_199 : decode cX12_cutAll 199 = .ok (.i2l, 1) := by decide +kernel
theorem dX12_cutAll_200 : decode cX12_cutAll 200 = .ok (.ladd, 1) := by decide +kernel
theorem dX12_cutAll_201 : decode cX12_cutAll 201 = .ok (.ldc2_w 183, 3) := by decide +kernel
theorem dX12_cutAll_204 : decode cX12_cutAll 204 = .ok (.lsub, 1) := by decide +kernel
theorem dX12_cutAll_205 : decode cX12_cutAll 205 = .ok (.goto 5, 3) := by decide +kernel
theorem dX12_cutAll_208 : decode cX12_cutAll 208 = .ok (.lload 5, 2) := by decide +kernel
theorem dX12_cutAll_210 : decode cX12_cutAll 210 = .ok (.lstore 5, 2) := by decide +kernel
theorem dX12_cutAll_212 : decode cX12_cutAll 212 = .ok (.iinc 2 1, 3) := by decide +kernel
theorem dX12_cutAll_215 : decode cX12_cutAll 215 = .ok (.goto (-56), 3) := by decide +kernel
theorem dX12_cutAll_218 : decode cX12_cutAll 218 = .ok (.aload_n 0, 1) := by decide +kernel
theorem dX12_cutAll_219 : decode cX12_cutAll 219 = .ok (.getfield 24, 3) := by decide +kernel
theorem dX12_cutAll_222 : decode cX12_cutAll 222 = .ok (.iload_n 1, 1) := by decide +kernel
theorem dX12_cutAll_223 : decode cX12_cutAll 223 = .ok (.iload_n 2, 1) := by decide +kernel
theorem dX12_cutAll_224 : decode cX12_cutAll 224 = .ok (.iload 4, 2) := by decide +kernel
theorem dX12_cutAll_226 : decode cX12_cutAll 226 = .ok (.isub, 1) := by decide +kernel
theorem dX12_cutAll_227 : decode cX12_cutAll 227 = .ok (.iconst 4, 1) := by decide +kernel
theorem dX12_cutAll_228 : decode cX12_cutAll 228 = .ok (.if_icmp .le 7, 3) := by decide +kernel
theorem dX12_cutAll_231 : decode cX12_cutAll 231 = .ok (.iconst 4, 1) := by decide +kernel
theorem dX12_cutAll_232 : decode cX12_cutAll 232 = .ok (.goto 4, 3) := by decide +kernel
theorem dX12_cutAll_235 : decode cX12_cutAll 235 = .ok (.iconst 2, 1) := by decide +kernel
theorem dX12_cutAll_236 : decode cX12_cutAll 236 = .ok (.iastore, 1) := by decide +kernel
theorem dX12_cutAll_237 : decode cX12_cutAll 237 = .ok (.goto 28, 3) := by decide +kernel
theorem dX12_cutAll_240 : decode cX12_cutAll 240 = .ok (.iload_n 3, 1) := by decide +kernel
theorem dX12_cutAll_241 : decode cX12_cutAll 241 = .ok (.i2l, 1) := by decide +kernel
theorem dX12_cutAll_242 : decode cX12_cutAll 242 = .ok (.lstore 5, 2) := by decide +kernel
theorem dX12_cutAll_244 : decode cX12_cutAll 244 = .ok (.aload_n 0, 1) := by decide +kernel
theorem dX12_cutAll_245 : decode cX12_cutAll 245 = .ok (.getfield 24, 3) := by decide +kernel
theorem dX12_cutAll_248 : decode cX12_cutAll 248 = .ok (.iload_n 1, 1) := by decide +kernel
theorem dX12_cutAll_249 : decode cX12_cutAll 249 = .ok (.iload_n 3, 1) := by decide +kernel
theorem dX12_cutAll_250 : decode cX12_cutAll 250 = .ok (.invokestatic 185, 3) := by decide +kernel
theorem dX12_cutAll_253 : decode cX12_cutAll 253 = .ok (.ifCond .eq 7, 3) := by decide +kernel
theorem dX12_cutAll_256 : decode cX12_cutAll 256 = .ok (.iconst 3, 1) := by decide +kernel
theorem dX12_cutAll_257 : decode cX12_cutAll 257 = .ok (.goto 4, 3) := by decide +kernel
theorem dX12_cutAll_260 : decode cX12_cutAll 260 = .ok (.iconst 4, 1) := by decide +kernel
theorem dX12_cutAll_261 : decode cX12_cutAll 261 = .ok (.iastore, 1) := by decide +kernel
theorem dX12_cutAll_262 : decode cX12_cutAll 262 = .ok (.iinc 2 1, 3) := by decide +kernel
theorem dX12_cutAll_265 : decode cX12_cutAll 265 = .ok (.aload_n 0, 1) := by decide +kernel
theorem dX12_cutAll_266 : decode cX12_cutAll 266 = .ok (.getfield 30, 3) := by decide +kernel
theorem dX12_cutAll_269 : decode cX12_cutAll 269 = .ok (.iload_n 1, 1) := by decide +kernel
theorem dX12_cutAll_270 : decode cX12_cutAll 270 = .ok (.lload 5, 2) := by decide +kernel
theorem dX12_cutAll_272 : decode cX12_cutAll 272 = .ok (.lastore, 1) := by decide +kernel
theorem dX12_cutAll_273 : decode cX12_cutAll 273 = .ok (.iinc 1 1, 3) := by decide +kernel
theorem dX12_cutAll_276 : decode cX12_cutAll 276 = .ok (.goto (-259), 3) := by decide +kernel
theorem dX12_cutAll_279 : decode cX12_cutAll 279 = .ok (.aload_n 0, 1) := by decide +kernel
theorem dX12_cutAll_280 : decode cX12_cutAll 280 = .ok (.getfield 24, 3) := by decide +kernel
theorem dX12_cutAll_283 : decode cX12_cutAll 283 = .ok (.iload_n 1, 1) := by decide +kernel
theorem dX12_cutAll_284 : decode cX12_cutAll 284 = .ok (.iconst 0, 1) := by decide +kernel
theorem dX12_cutAll_285 : decode cX12_cutAll 285 = .ok (.iastore, 1) := by decide +kernel
theorem dX12_cutAll_286 : decode cX12_cutAll 286 = .ok (.aload_n 0, 1) := by decide +kernel
theorem dX12_cutAll_287 : decode cX12_cutAll 287 = .ok (.getfield 27, 3) := by decide +kernel
theorem dX12_cutAll_290 : decode cX12_cutAll 290 = .ok (.iload_n 1, 1) := by decide +kernel
theorem dX12_cutAll_291 : decode cX12_cutAll 291 = .ok (.aload_n 0, 1) := by decide +kernel
theorem dX12_cutAll_292 : decode cX12_cutAll 292 = .ok (.getfield 169, 3) := by decide +kernel
theorem dX12_cutAll_295 : decode cX12_cutAll 295 = .ok (.iastore, 1) := by decide +kernel
theorem dX12_cutAll_296 : decode cX12_cutAll 296 = .ok (.aload_n 0, 1) := by decide +kernel
theorem dX12_cutAll_297 : decode cX12_cutAll 297 = .ok (.iconst 0, 1) := by decide +kernel
theorem dX12_cutAll_298 : decode cX12_cutAll 298 = .ok (.putfield 188, 3) := by decide +kernel
theorem dX12_cutAll_301 : decode cX12_cutAll 301 = .ok (.aload_n 0, 1) := by decide +kernel
theorem dX12_cutAll_302 : decode cX12_cutAll 302 = .ok (.iconst 0, 1) := by decide +kernel
theorem dX12_cutAll_303 : decode cX12_cutAll 303 = .ok (.putfield 191, 3) := by decide +kernel
theorem dX12_cutAll_306 : decode cX12_cutAll 306 = .ok (.return_, 1) := by decide +kernel
theorem dX12_wrong_0 : decode cX12_wrong 0 = .ok (.aload_n 0, 1) := by decide +kernel
theorem dX12_wrong_1 : decode cX12_wrong 1 = .ok (.getfield 191, 3) := by decide +kernel
theorem dX12_wrong_4 : decode cX12_wrong 4 = .ok (.ifCond .ne 21, 3) := by decide +kernel
theorem dX12_wrong_7 : decode cX12_wrong 7 = .ok (.aload_n 0, 1) := by decide +kernel
theorem dX12_wrong_8 : decode cX12_wrong 8 = .ok (.iload_n 1, 1) := by decide +kernel
theorem dX12_wrong_9 : decode cX12_wrong 9 = .ok (.bipush 16, 2) := by decide +kernel
theorem dX12_wrong_11 : decode cX12_wrong 11 = .ok (.aload_n 0, 1) := by decide +kernel
theorem dX12_wrong_12 : decode cX12_wrong 12 = .ok (.getfield 27, 3) := by decide +kernel
theorem dX12_wrong_15 : decode cX12_wrong 15 = .ok (.aload_n 0, 1) := by decide +kernel
theorem dX12_wrong_16 : decode cX12_wrong 16 = .ok (.getfield 188, 3) := by decide +kernel
theorem dX12_wrong_19 : decode cX12_wrong 19 = .ok (.iaload, 1) := by decide +kernel
theorem dX12_wrong_20 : decode cX12_wrong 20 = .ok (.imul, 1) := by decide +kernel
theorem dX12_wrong_21 : decode cX12_wrong 21 = .ok (.iadd, 1) := by decide +kernel
theorem dX12_wrong_22 : decode cX12_wrong 22 = .ok (.putfield 191, 3) := by decide +kernel
theorem dX12_wrong_25 : decode cX12_wrong 25 = .ok (.return_, 1) := by decide +kernel
theorem dX12_isSign_0 : decode cX12_isSign 0 = .ok (.aload_n 0, 1) := by decide +kernel
theorem dX12_isSign_1 : decode cX12_isSign 1 = .ok (.getfield 191, 3) := by decide +kernel
theorem dX12_isSign_4 : decode cX12_isSign 4 = .ok (.ifCond .ne 35, 3) := by decide +kernel
theorem dX12_isSign_7 : decode cX12_isSign 7 = .ok (.aload_n 0, 1) := by decide +kernel
theorem dX12_isSign_8 : decode cX12_isSign 8 = .ok (.getfield 24, 3) := by decide +kernel
theorem dX12_isSign_11 : decode cX12_isSign 11 = .ok (.aload_n 0, 1) := by decide +kernel
theorem dX12_isSign_12 : decode cX12_isSign 12 = .ok (.getfield 188, 3) := by decide +kernel
theorem dX12_isSign_15 : decode cX12_isSign 15 = .ok (.iaload, 1) := by decide +kernel
theorem dX12_isSign_16 : decode cX12_isSign 16 = .ok (.iconst 3, 1) := by decide +kernel
theorem dX12_isSign_17 : decode cX12_isSign 17 = .ok (.if_icmp .ne 22, 3) := by decide +kernel
theorem dX12_isSign_20 : decode cX12_isSign 20 = .ok (.aload_n 0, 1) := by decide +kernel
theorem dX12_isSign_21 : decode cX12_isSign 21 = .ok (.getfield 30, 3) := by decide +kernel
theorem dX12_isSign_24 : decode cX12_isSign 24 = .ok (.aload_n 0, 1) := by decide +kernel
theorem dX12_isSign_25 : decode cX12_isSign 25 = .ok (.getfield 188, 3) := by decide +kernel
theorem dX12_isSign_28 : decode cX12_isSign 28 = .ok (.laload, 1) := by decide +kernel
theorem dX12_isSign_29 : decode cX12_isSign 29 = .ok (.iload_n 1, 1) := by decide +kernel
theorem dX12_isSign_30 : decode cX12_isSign 30 = .ok (.i2l, 1) := by decide +kernel
theorem dX12_isSign_31 : decode cX12_isSign 31 = .ok (.lcmp, 1) := by decide +kernel
theorem dX12_isSign_32 : decode cX12_isSign 32 = .ok (.ifCond .ne 7, 3) := by decide +kernel
theorem dX12_isSign_35 : decode cX12_isSign 35 = .ok (.iconst 1, 1) := by decide +kernel
theorem dX12_isSign_36 : decode cX12_isSign 36 = .ok (.goto 4, 3) := by decide +kernel
theorem dX12_isSign_39 : decode cX12_isSign 39 = .ok (.iconst 0, 1) := by decide +kernel
theorem dX12_isSign_40 : decode cX12_isSign 40 = .ok (.ireturn, 1) := by decide +kernel
theorem dX12_isWord_0 : decode cX12_isWord 0 = .ok (.aload_n 0, 1) := by decide +kernel
theorem dX12_isWord_1 : decode cX12_isWord 1 = .ok (.getfield 191, 3) := by decide +kernel
theorem dX12_isWord_4 : decode cX12_isWord 4 = .ok (.ifCond .ne 39, 3) := by decide +kernel
theorem dX12_isWord_7 : decode cX12_isWord 7 = .ok (.aload_n 0, 1) := by decide +kernel
theorem dX12_isWord_8 : decode cX12_isWord 8 = .ok (.getfield 24, 3) := by decide +kernel
theorem dX12_isWord_11 : decode cX12_isWord 11 = .ok (.aload_n 0, 1) := by decide +kernel
theorem dX12_isWord_12 : decode cX12_isWord 12 = .ok (.getfield 188, 3) := by decide +kernel
theorem dX12_isWord_15 : decode cX12_isWord 15 = .ok (.iaload, 1) := by decide +kernel
theorem dX12_isWord_16 : decode cX12_isWord 16 = .ok (.iconst 1, 1) := by decide +kernel
theorem dX12_isWord_17 : decode cX12_isWord 17 = .ok (.if_icmp .ne 26, 3) := by decide +kernel
theorem dX12_isWord_20 : decode cX12_isWord 20 = .ok (.aload_n 0, 1) := by decide +kernel
theorem dX12_isWord_21 : decode cX12_isWord 21 = .ok (.getfield 30, 3) := by decide +kernel
theorem dX12_isWord_24 : decode cX12_isWord 24 = .ok (.aload_n 0, 1) := by decide +kernel
theorem dX12_isWord_25 : decode cX12_isWord 25 = .ok (.getfield 188, 3) := by decide +kernel
theorem dX12_isWord_28 : decode cX12_isWord 28 = .ok (.laload, 1) := by decide +kernel
theorem dX12_isWord_29 : decode cX12_isWord 29 = .ok (.aload_n 0, 1) := by decide +kernel
theorem dX12_isWord_30 : decode cX12_isWord 30 = .ok (.getfield 94, 3) := by decide +kernel
theorem dX12_isWord_33 : decode cX12_isWord 33 = .ok (.iload_n 1, 1) := by decide +kernel
theorem dX12_isWord_34 : decode cX12_isWord 34 = .ok (.laload, 1) := by decide +kernel
theorem dX12_isWord_35 : decode cX12_isWord 35 = .ok (.lcmp, 1) := by decide +kernel
theorem dX12_isWord_36 : decode cX12_isWord 36 = .ok (.ifCond .ne 7, 3) := by decide +kernel
theorem dX12_isWord_39 : decode cX12_isWord 39 = .ok (.iconst 1, 1) := by decide +kernel
theorem dX12_isWord_40 : decode cX12_isWord 40 = .ok (.goto 4, 3) := by decide +kernel
theorem dX12_isWord_43 : decode cX12_isWord 43 = .ok (.iconst 0, 1) := by decide +kernel
theorem dX12_isWord_44 : decode cX12_isWord 44 = .ok (.ireturn, 1) := by decide +kernel
theorem dX12_takeSign_0 : decode cX12_takeSign 0 = .ok (.aload_n 0, 1) := by decide +kernel
theorem dX12_takeSign_1 : decode cX12_takeSign 1 = .ok (.iload_n 1, 1) := by decide +kernel
theorem dX12_takeSign_2 : decode cX12_takeSign 2 = .ok (.invokevirtual 194, 3) := by decide +kernel
theorem dX12_takeSign_5 : decode cX12_takeSign 5 = .ok (.ifCond .eq 16, 3) := by decide +kernel
theorem dX12_takeSign_8 : decode cX12_takeSign 8 = .ok (.aload_n 0, 1) := by decide +kernel
theorem dX12_takeSign_9 : decode cX12_takeSign 9 = .ok (.dup, 1) := by decide +kernel
theorem dX12_takeSign_10 : decode cX12_takeSign 10 = .ok (.getfield 188, 3) := by decide +kernel
theorem dX12_takeSign_13 : decode cX12_takeSign 13 = .ok (.iconst 1, 1) := by decide +kernel
theorem dX12_takeSign_14 : decode cX12_takeSign 14 = .ok (.iadd, 1) := by decide +kernel
theorem dX12_takeSign_15 : decode cX12_takeSign 15 = .ok (.putfield 188, 3) := by decide +kernel
theorem dX12_takeSign_18 : decode cX12_takeSign 18 = .ok (.goto 8, 3) := by decide +kernel
theorem dX12_takeSign_21 : decode cX12_takeSign 21 = .ok (.aload_n 0, 1) := by decide +kernel
theorem dX12_takeSign_22 : decode cX12_takeSign 22 = .ok (.iconst 1, 1) := by decide +kernel
theorem dX12_takeSign_23 : decode cX12_takeSign 23 = .ok (.invokevirtual 197, 3) := by decide +kernel
theorem dX12_takeSign_26 : decode cX12_takeSign 26 = .ok (.return_, 1) := by decide +kernel
theorem dX12_hasSign_0 : decode cX12_hasSign 0 = .ok (.aload_n 0, 1) := by decide +kernel
theorem dX12_hasSign_1 : decode cX12_hasSign 1 = .ok (.iload_n 1, 1) := by decide +kernel
theorem dX12_hasSign_2 : decode cX12_hasSign 2 = .ok (.invokevirtual 194, 3) := by decide +kernel
theorem dX12_hasSign_5 : decode cX12_hasSign 5 = .ok (.istore_n 2, 1) := by decide +kernel
theorem dX12_hasSign_6 : decode cX12_hasSign 6 = .ok (.aload_n 0, 1) := by decide +kernel
theorem dX12_hasSign_7 : decode cX12_hasSign 7 = .ok (.dup, 1) := by decide +kernel
theorem dX12_hasSign_8 : decode cX12_hasSign 8 = .ok (.getfield 188, 3) := by decide +kernel
theorem dX12_hasSign_11 : decode cX12_hasSign 11 = .ok (.iload_n 2, 1) := by decide +kernel
theorem dX12_hasSign_12 : decode cX12_hasSign 12 = .ok (.ifCond .eq 7, 3) := by decide +kernel
theorem dX12_hasSign_15 : decode cX12_hasSign 15 = .ok (.iconst 1, 1) := by decide +kernel
theorem dX12_hasSign_16 : decode cX12_hasSign 16 = .ok (.goto 4, 3) := by decide +kernel
theorem dX12_hasSign_19 : decode cX12_hasSign 19 = .ok (.iconst 0, 1) := by decide +kernel
theorem dX12_hasSign_20 : decode cX12_hasSign 20 = .ok (.iadd, 1) := by decide +kernel
theorem dX12_hasSign_21 : decode cX12_hasSign 21 = .ok (.putfield 188, 3) := by decide +kernel
theorem dX12_hasSign_24 : decode cX12_hasSign 24 = .ok (.iload_n 2, 1) := by decide +kernel
theorem dX12_hasSign_25 : decode cX12_hasSign 25 = .ok (.ireturn, 1) := by decide +kernel
theorem dX12_hasWord_0 : decode cX12_hasWord 0 = .ok (.aload_n 0, 1) := by decide +kernel
theorem dX12_hasWord_1 : decode cX12_hasWord 1 = .ok (.iload_n 1, 1) := by decide +kernel
theorem dX12_hasWord_2 : decode cX12_hasWord 2 = .ok (.invokevirtual 200, 3) := by decide +kernel
theorem dX12_hasWord_5 : decode cX12_hasWord 5 = .ok (.istore_n 2, 1) := by decide +kernel
theorem dX12_hasWord_6 : decode cX12_hasWord 6 = .ok (.aload_n 0, 1) := by decide +kernel
theorem dX12_hasWord_7 : decode cX12_hasWord 7 = .ok (.dup, 1) := by decide +kernel
theorem dX12_hasWord_8 : decode cX12_hasWord 8 = .ok (.getfield 188, 3) := by decide +kernel
theorem dX12_hasWord_11 : decode cX12_hasWord 11 = .ok (.iload_n 2, 1) := by decide +kernel
theorem dX12_hasWord_12 : decode cX12_hasWord 12 = .ok (.ifCond .eq 7, 3) := by decide +kernel
theorem dX12_hasWord_15 : decode cX12_hasWord 15 = .ok (.iconst 1, 1) := by decide +kernel
theorem dX12_hasWord_16 : decode cX12_hasWord 16 = .ok (.goto 4, 3) := by decide +kernel
theorem dX12_hasWord_19 : decode cX12_hasWord 19 = .ok (.iconst 0, 1) := by decide +kernel
theorem dX12_hasWord_20 : decode cX12_hasWord 20 = .ok (.iadd, 1) := by decide +kernel
theorem dX12_hasWord_21 : decode cX12_hasWord 21 = .ok (.putfield 188, 3) := by decide +kernel
theorem dX12_hasWord_24 : decode cX12_hasWord 24 = .ok (.iload_n 2, 1) := by decide +kernel
theorem dX12_hasWord_25 : decode cX12_hasWord 25 = .ok (.ireturn, 1) := by decide +kernel
theorem dX12_takeWord_0 : decode cX12_takeWord 0 = .ok (.aload_n 0, 1) := by decide +kernel
theorem dX12_takeWord_1 : decode cX12_takeWord 1 = .ok (.iload_n 1, 1) := by decide +kernel
theorem dX12_takeWord_2 : decode cX12_takeWord 2 = .ok (.invokevirtual 203, 3) := by decide +kernel
theorem dX12_takeWord_5 : decode cX12_takeWord 5 = .ok (.ifCond .ne 8, 3) := by decide +kernel
theorem dX12_takeWord_8 : decode cX12_takeWord 8 = .ok (.aload_n 0, 1) := by decide +kernel
theorem dX12_takeWord_9 : decode cX12_takeWord 9 = .ok (.iconst 1, 1) := by decide +kernel
theorem dX12_takeWord_10 : decode cX12_takeWord 10 = .ok (.invokevirtual 197, 3) := by decide +kernel
theorem dX12_takeWord_13 : decode cX12_takeWord 13 = .ok (.return_, 1) := by decide +kernel
theorem dX12_within_0 : decode cX12_within 0 = .ok (.iload_n 0, 1) := by decide +kernel
theorem dX12_within_1 : decode cX12_within 1 = .ok (.iload_n 1, 1) := by decide +kernel
theorem dX12_within_2 : decode cX12_within 2 = .ok (.if_icmp .lt 12, 3) := by decide +kernel
theorem dX12_within_5 : decode cX12_within 5 = .ok (.iload_n 0, 1) := by decide +kernel
theorem dX12_within_6 : decode cX12_within 6 = .ok (.iload_n 2, 1) := by decide +kernel
theorem dX12_within_7 : decode cX12_within 7 = .ok (.if_icmp .gt 7, 3) := by decide +kernel
theorem dX12_within_10 : decode cX12_within 10 = .ok (.iconst 1, 1) := by decide +kernel
theorem dX12_within_11 : decode cX12_within 11 = .ok (.goto 4, 3) := by decide +kernel
theorem dX12_within_14 : decode cX12_within 14 = .ok (.iconst 0, 1) := by decide +kernel
theorem dX12_within_15 : decode cX12_within 15 = .ok (.ireturn, 1) := by decide +kernel
theorem dX12_standsAsAlways_0 : decode cX12_standsAsAlways 0 = .ok (.iconst 0, 1) := by decide +kernel
theorem dX12_standsAsAlways_1 : decode cX12_standsAsAlways 1 = .ok (.istore_n 2, 1) := by decide +kernel
theorem dX12_standsAsAlways_2 : decode cX12_standsAsAlways 2 = .ok (.iload_n 2, 1) := by decide +kernel
theorem dX12_standsAsAlways_3 : decode cX12_standsAsAlways 3 = .ok (.sipush 160, 3) := by decide +kernel
theorem dX12_standsAsAlways_6 : decode cX12_standsAsAlways 6 = .ok (.if_icmp .ge 18, 3) := by decide +kernel
theorem dX12_standsAsAlways_9 : decode cX12_standsAsAlways 9 = .ok (.aload_n 0, 1) := by decide +kernel
theorem dX12_standsAsAlways_10 : decode cX12_standsAsAlways 10 = .ok (.getfield 97, 3) := by decide +kernel
theorem dX12_standsAsAlways_13 : decode cX12_standsAsAlways 13 = .ok (.iload_n 1, 1) := by decide +kernel
theorem dX12_standsAsAlways_14 : decode cX12_standsAsAlways 14 = .ok (.iload_n 2, 1) := by decide +kernel
theorem dX12_standsAsAlways_15 : decode cX12_standsAsAlways 15 = .ok (.iadd, 1) := by decide +kernel
theorem dX12_standsAsAlways_16 : decode cX12_standsAsAlways 16 = .ok (.iconst 0, 1) := by decide +kernel
theorem dX12_standsAsAlways_17 : decode cX12_standsAsAlways 17 = .ok (.iastore, 1) := by decide +kernel
theorem dX12_standsAsAlways_18 : decode cX12_standsAsAlways 18 = .ok (.iinc 2 1, 3) := by decide +kernel
theorem dX12_standsAsAlways_21 : decode cX12_standsAsAlways 21 = .ok (.goto (-19), 3) := by decide +kernel
theorem dX12_standsAsAlways_24 : decode cX12_standsAsAlways 24 = .ok (.aload_n 0, 1) := by decide +kernel
theorem dX12_standsAsAlways_25 : decode cX12_standsAsAlways 25 = .ok (.getfield 97, 3) := by decide +kernel
theorem dX12_standsAsAlways_28 : decode cX12_standsAsAlways 28 = .ok (.iload_n 1, 1) := by decide +kernel
theorem dX12_standsAsAlways_29 : decode cX12_standsAsAlways 29 = .ok (.iconst 3, 1) := by decide +kernel
theorem dX12_standsAsAlways_30 : decode cX12_standsAsAlways 30 = .ok (.iadd, 1) := by decide +kernel
theorem dX12_standsAsAlways_31 : decode cX12_standsAsAlways 31 = .ok (.bipush 99, 2) := by decide +kernel
theorem dX12_standsAsAlways_33 : decode cX12_standsAsAlways 33 = .ok (.iastore, 1) := by decide +kernel
theorem dX12_standsAsAlways_34 : decode cX12_standsAsAlways 34 = .ok (.aload_n 0, 1) := by decide +kernel
theorem dX12_standsAsAlways_35 : decode cX12_standsAsAlways 35 = .ok (.getfield 97, 3) := by decide +kernel
theorem dX12_standsAsAlways_38 : decode cX12_standsAsAlways 38 = .ok (.iload_n 1, 1) := by decide +kernel
theorem dX12_standsAsAlways_39 : decode cX12_standsAsAlways 39 = .ok (.iconst 4, 1) := by decide +kernel
theorem dX12_standsAsAlways_40 : decode cX12_standsAsAlways 40 = .ok (.iadd, 1) := by decide +kernel
theorem dX12_standsAsAlways_41 : decode cX12_standsAsAlways 41 = .ok (.bipush 60, 2) := by decide +kernel
theorem dX12_standsAsAlways_43 : decode cX12_standsAsAlways 43 = .ok (.iastore, 1) := by decide +kernel
theorem dX12_standsAsAlways_44 : decode cX12_standsAsAlways 44 = .ok (.aload_n 0, 1) := by decide +kernel
theorem dX12_standsAsAlways_45 : decode cX12_standsAsAlways 45 = .ok (.getfield 97, 3) := by decide +kernel
theorem dX12_standsAsAlways_48 : decode cX12_standsAsAlways 48 = .ok (.iload_n 1, 1) := by decide +kernel
theorem dX12_standsAsAlways_49 : decode cX12_standsAsAlways 49 = .ok (.iconst 5, 1) := by decide +kernel
theorem dX12_standsAsAlways_50 : decode cX12_standsAsAlways 50 = .ok (.iadd, 1) := by decide +kernel
theorem dX12_standsAsAlways_51 : decode cX12_standsAsAlways 51 = .ok (.sipush 360, 3) := by decide +kernel
theorem dX12_standsAsAlways_54 : decode cX12_standsAsAlways 54 = .ok (.iastore, 1) := by decide +kernel
theorem dX12_standsAsAlways_55 : decode cX12_standsAsAlways 55 = .ok (.aload_n 0, 1) := by decide +kernel
theorem dX12_standsAsAlways_56 : decode cX12_standsAsAlways 56 = .ok (.getfield 97, 3) := by decide +kernel
theorem dX12_standsAsAlways_59 : decode cX12_standsAsAlways 59 = .ok (.iload_n 1, 1) := by decide +kernel
theorem dX12_standsAsAlways_60 : decode cX12_standsAsAlways 60 = .ok (.bipush 6, 2) := by decide +kernel
theorem dX12_standsAsAlways_62 : decode cX12_standsAsAlways 62 = .ok (.iadd, 1) := by decide +kernel
theorem dX12_standsAsAlways_63 : decode cX12_standsAsAlways 63 = .ok (.iconst (-1), 1) := by decide +kernel
theorem dX12_standsAsAlways_64 : decode cX12_standsAsAlways 64 = .ok (.iastore, 1) := by decide +kernel
theorem dX12_standsAsAlways_65 : decode cX12_standsAsAlways 65 = .ok (.aload_n 0, 1) := by decide +kernel
theorem dX12_standsAsAlways_66 : decode cX12_standsAsAlways 66 = .ok (.getfield 97, 3) := by decide +kernel
theorem dX12_standsAsAlways_69 : decode cX12_standsAsAlways 69 = .ok (.iload_n 1, 1) := by decide +kernel
theorem dX12_standsAsAlways_70 : decode cX12_standsAsAlways 70 = .ok (.bipush 6, 2) := by decide +kernel
theorem dX12_standsAsAlways_72 : decode cX12_standsAsAlways 72 = .ok (.iadd, 1) := by decide +kernel
theorem dX12_standsAsAlways_73 : decode cX12_standsAsAlways 73 = .ok (.iconst 1, 1) := by decide +kernel
theorem dX12_standsAsAlways_74 : decode cX12_standsAsAlways 74 = .ok (.iadd, 1) := by decide +kernel
theorem dX12_standsAsAlways_75 : decode cX12_standsAsAlways 75 = .ok (.iconst (-1), 1) := by decide +kernel
theorem dX12_standsAsAlways_76 : decode cX12_standsAsAlways 76 = .ok (.iastore, 1) := by decide +kernel
theorem dX12_standsAsAlways_77 : decode cX12_standsAsAlways 77 = .ok (.return_, 1) := by decide +kernel
theorem dX12_takeNumber_0 : decode cX12_takeNumber 0 = .ok (.aload_n 0, 1) := by decide +kernel
theorem dX12_takeNumber_1 : decode cX12_takeNumber 1 = .ok (.getfield 191, 3) := by decide +kernel
theorem dX12_takeNumber_4 : decode cX12_takeNumber 4 = .ok (.ifCond .ne 24, 3) := by decide +kernel
theorem dX12_takeNumber_7 : decode cX12_takeNumber 7 = .ok (.aload_n 0, 1) := by decide +kernel
theorem dX12_takeNumber_8 : decode cX12_takeNumber 8 = .ok (.getfield 24, 3) := by decide +kernel
theorem dX12_takeNumber_11 : decode cX12_takeNumber 11 = .ok (.aload_n 0, 1) := by decide +kernel
theorem dX12_takeNumber_12 : decode cX12_takeNumber 12 = .ok (.getfield 188, 3) := by decide +kernel
theorem dX12_takeNumber_15 : decode cX12_takeNumber 15 = .ok (.iaload, 1) := by decide +kernel
theorem dX12_takeNumber_16 : decode cX12_takeNumber 16 = .ok (.iconst 2, 1) := by decide +kernel
theorem dX12_takeNumber_17 : decode cX12_takeNumber 17 = .ok (.if_icmp .eq 11, 3) := by decide +kernel
theorem dX12_takeNumber_20 : decode cX12_takeNumber 20 = .ok (.aload_n 0, 1) := by decide +kernel
theorem dX12_takeNumber_21 : decode cX12_takeNumber 21 = .ok (.iconst 1, 1) := by decide +kernel
theorem dX12_takeNumber_22 : decode cX12_takeNumber 22 = .ok (.invokevirtual 197, 3) := by decide +kernel
theorem dX12_takeNumber_25 : decode cX12_takeNumber 25 = .ok (.goto 45, 3) := by decide +kernel
theorem dX12_takeNumber_28 : decode cX12_takeNumber 28 = .ok (.aload_n 0, 1) := by decide +kernel
theorem dX12_takeNumber_29 : decode cX12_takeNumber 29 = .ok (.getfield 191, 3) := by decide +kernel
theorem dX12_takeNumber_32 : decode cX12_takeNumber 32 = .ok (.ifCond .ne 38, 3) := by decide +kernel
theorem dX12_takeNumber_35 : decode cX12_takeNumber 35 = .ok (.aload_n 0, 1) := by decide +kernel
theorem dX12_takeNumber_36 : decode cX12_takeNumber 36 = .ok (.getfield 30, 3) := by decide +kernel
theorem dX12_takeNumber_39 : decode cX12_takeNumber 39 = .ok (.aload_n 0, 1) := by decide +kernel
theorem dX12_takeNumber_40 : decode cX12_takeNumber 40 = .ok (.getfield 188, 3) := by decide +kernel
theorem dX12_takeNumber_43 : decode cX12_takeNumber 43 = .ok (.laload, 1) := by decide +kernel
theorem dX12_takeNumber_44 : decode cX12_takeNumber 44 = .ok (.iload_n 1, 1) := by decide +kernel
theorem dX12_takeNumber_45 : decode cX12_takeNumber 45 = .ok (.i2l, 1) := by decide +kernel
theorem dX12_takeNumber_46 : decode cX12_takeNumber 46 = .ok (.lcmp, 1) := by decide +kernel
theorem dX12_takeNumber_47 : decode cX12_takeNumber 47 = .ok (.ifCond .lt 18, 3) := by decide +kernel
theorem dX12_takeNumber_50 : decode cX12_takeNumber 50 = .ok (.aload_n 0, 1) := by decide +kernel
theorem dX12_takeNumber_51 : decode cX12_takeNumber 51 = .ok (.getfield 30, 3) := by decide +kernel
theorem dX12_takeNumber_54 : decode cX12_takeNumber 54 = .ok (.aload_n 0, 1) := by decide +kernel
theorem dX12_takeNumber_55 : decode cX12_takeNumber 55 = .ok (.getfield 188, 3) := by decide +kernel
theorem dX12_takeNumber_58 : decode cX12_takeNumber 58 = .ok (.laload, 1) := by decide +kernel
theorem dX12_takeNumber_59 : decode cX12_takeNumber 59 = .ok (.iload_n 2, 1) := by decide +kernel
theorem dX12_takeNumber_60 : decode cX12_takeNumber 60 = .ok (.i2l, 1) := by decide +kernel
theorem dX12_takeNumber_61 : decode cX12_takeNumber 61 = .ok (.lcmp, 1) := by decide +kernel
theorem dX12_takeNumber_62 : decode cX12_takeNumber 62 = .ok (.ifCond .le 8, 3) := by decide +kernel
theorem dX12_takeNumber_65 : decode cX12_takeNumber 65 = .ok (.aload_n 0, 1) := by decide +kernel
theorem dX12_takeNumber_66 : decode cX12_takeNumber 66 = .ok (.iconst 4, 1) := by decide +kernel
theorem dX12_takeNumber_67 : decode cX12_takeNumber 67 = .ok (.invokevirtual 197, 3) := by decide +kernel
theorem dX12_takeNumber_70 : decode cX12_takeNumber 70 = .ok (.aload_n 0, 1) := by decide +kernel
theorem dX12_takeNumber_71 : decode cX12_takeNumber 71 = .ok (.getfield 191, 3) := by decide +kernel
theorem dX12_takeNumber_74 : decode cX12_takeNumber 74 = .ok (.ifCond .le 5, 3) := by decide +kernel
theorem dX12_takeNumber_77 : decode cX12_takeNumber 77 = .ok (.iconst 0, 1) := by decide +kernel
theorem dX12_takeNumber_78 : decode cX12_takeNumber 78 = .ok (.ireturn, 1) := by decide +kernel
theorem dX12_takeNumber_79 : decode cX12_takeNumber 79 = .ok (.aload_n 0, 1) := by decide +kernel
theorem dX12_takeNumber_80 : decode cX12_takeNumber 80 = .ok (.dup, 1) := by decide +kernel
theorem dX12_takeNumber_81 : decode cX12_takeNumber 81 = .ok (.getfield 188, 3) := by decide +kernel
theorem dX12_takeNumber_84 : decode cX12_takeNumber 84 = .ok (.iconst 1, 1) := by decide +kernel
theorem dX12_takeNumber_85 : decode cX12_takeNumber 85 = .ok (.iadd, 1) := by decide +kernel
theorem dX12_takeNumber_86 : decode cX12_takeNumber 86 = .ok (.putfield 188, 3) := by decide +kernel
theorem dX12_takeNumber_89 : decode cX12_takeNumber 89 = .ok (.aload_n 0, 1) := by decide +kernel
theorem dX12_takeNumber_90 : decode cX12_takeNumber 90 = .ok (.getfield 30, 3) := by decide +kernel
theorem dX12_takeNumber_93 : decode cX12_takeNumber 93 = .ok (.aload_n 0, 1) := by decide +kernel
theorem dX12_takeNumber_94 : decode cX12_takeNumber 94 = .ok (.getfield 188, 3) := by decide +kernel
theorem dX12_takeNumber_97 : decode cX12_takeNumber 97 = .ok (.iconst 1, 1) := by decide +kernel
theorem dX12_takeNumber_98 : decode cX12_takeNumber 98 = .ok (.isub, 1) := by decide +kernel
theorem dX12_takeNumber_99 : decode cX12_takeNumber 99 = .ok (.laload, 1) := by decide +kernel
theorem dX12_takeNumber_100 : decode cX12_takeNumber 100 = .ok (.l2i, 1) := by decide +kernel
theorem dX12_takeNumber_101 : decode cX12_takeNumber 101 = .ok (.ireturn, 1) := by decide +kernel
theorem dX12_takeAfter_0 : decode cX12_takeAfter 0 = .ok (.aload_n 0, 1) := by decide +kernel
theorem dX12_takeAfter_1 : decode cX12_takeAfter 1 = .ok (.iload_n 1, 1) := by decide +kernel
theorem dX12_takeAfter_2 : decode cX12_takeAfter 2 = .ok (.invokevirtual 206, 3) := by decide +kernel
theorem dX12_takeAfter_5 : decode cX12_takeAfter 5 = .ok (.aload_n 0, 1) := by decide +kernel
theorem dX12_takeAfter_6 : decode cX12_takeAfter 6 = .ok (.iload_n 2, 1) := by decide +kernel
theorem dX12_takeAfter_7 : decode cX12_takeAfter 7 = .ok (.iload_n 3, 1) := by decide +kernel
theorem dX12_takeAfter_8 : decode cX12_takeAfter 8 = .ok (.invokevirtual 209, 3) := by decide +kernel
theorem dX12_takeAfter_11 : decode cX12_takeAfter 11 = .ok (.ireturn, 1) := by decide +kernel
theorem dX12_isName_0 : decode cX12_isName 0 = .ok (.aload_n 0, 1) := by decide +kernel
theorem dX12_isName_1 : decode cX12_isName 1 = .ok (.getfield 191, 3) := by decide +kernel
theorem dX12_isName_4 : decode cX12_isName 4 = .ok (.ifCond .ne 20, 3) := by decide +kernel
theorem dX12_isName_7 : decode cX12_isName 7 = .ok (.aload_n 0, 1) := by decide +kernel
theorem dX12_isName_8 : decode cX12_isName 8 = .ok (.getfield 24, 3) := by decide +kernel
theorem dX12_isName_11 : decode cX12_isName 11 = .ok (.aload_n 0, 1) := by decide +kernel
theorem dX12_isName_12 : decode cX12_isName 12 = .ok (.getfield 188, 3) := by decide +kernel
theorem dX12_isName_15 : decode cX12_isName 15 = .ok (.iaload, 1) := by decide +kernel
theorem dX12_isName_16 : decode cX12_isName 16 = .ok (.iconst 1, 1) := by decide +kernel
theorem dX12_isName_17 : decode cX12_isName 17 = .ok (.if_icmp .ne 7, 3) := by decide +kernel
theorem dX12_isName_20 : decode cX12_isName 20 = .ok (.iconst 1, 1) := by decide +kernel
theorem dX12_isName_21 : decode cX12_isName 21 = .ok (.goto 4, 3) := by decide +kernel
theorem dX12_isName_24 : decode cX12_isName 24 = .ok (.iconst 0, 1) := by decide +kernel
theorem dX12_isName_25 : decode cX12_isName 25 = .ok (.istore_n 1, 1) := by decide +kernel
theorem dX12_isName_26 : decode cX12_isName 26 = .ok (.iconst 0, 1) := by decide +kernel
theorem dX12_isName_27 : decode cX12_isName 27 = .ok (.istore_n 2, 1) := by decide +kernel
theorem dX12_isName_28 : decode cX12_isName 28 = .ok (.iload_n 2, 1) := by decide +kernel
theorem dX12_isName_29 : decode cX12_isName 29 = .ok (.bipush 25, 2) := by decide +kernel
theorem dX12_isName_31 : decode cX12_isName 31 = .ok (.if_icmp .ge 38, 3) := by decide +kernel
theorem dX12_isName_34 : decode cX12_isName 34 = .ok (.iload_n 1, 1) := by decide +kernel
theorem dX12_isName_35 : decode cX12_isName 35 = .ok (.ifCond .eq 26, 3) := by decide +kernel
theorem dX12_isName_38 : decode cX12_isName 38 = .ok (.aload_n 0, 1) := by decide +kernel
theorem dX12_isName_39 : decode cX12_isName 39 = .ok (.getfield 30, 3) := by decide +kernel
theorem dX12_isName_42 : decode cX12_isName 42 = .ok (.aload_n 0, 1) := by decide +kernel
theorem dX12_isName_43 : decode cX12_isName 43 = .ok (.getfield 188, 3) := by decide +kernel
theorem dX12_isName_46 : decode cX12_isName 46 = .ok (.laload, 1) := by decide +kernel
theorem dX12_isName_47 : decode cX12_isName 47 = .ok (.aload_n 0, 1) := by decide +kernel
theorem dX12_isName_48 : decode cX12_isName 48 = .ok (.getfield 94, 3) := by decide +kernel
theorem dX12_isName_51 : decode cX12_isName 51 = .ok (.iload_n 2, 1) := by decide +kernel
theorem dX12_isName_52 : decode cX12_isName 52 = .ok (.laload, 1) := by decide +kernel
theorem dX12_isName_53 : decode cX12_isName 53 = .ok (.lcmp, 1) := by decide +kernel
theorem dX12_isName_54 : decode cX12_isName 54 = .ok (.ifCond .eq 7, 3) := by decide +kernel
theorem dX12_isName_57 : decode cX12_isName 57 = .ok (.iconst 1, 1) := by decide +kernel
theorem dX12_isName_58 : decode cX12_isName 58 = .ok (.goto 4, 3) := by decide +kernel
theorem dX12_isName_61 : decode cX12_isName 61 = .ok (.iconst 0, 1) := by decide +kernel
theorem dX12_isName_62 : decode cX12_isName 62 = .ok (.istore_n 1, 1) := by decide +kernel
theorem dX12_isName_63 : decode cX12_isName 63 = .ok (.iinc 2 1, 3) := by decide +kernel
theorem dX12_isName_66 : decode cX12_isName 66 = .ok (.goto (-38), 3) := by decide +kernel
theorem dX12_isName_69 : decode cX12_isName 69 = .ok (.iload_n 1, 1) := by decide +kernel
theorem dX12_isName_70 : decode cX12_isName 70 = .ok (.ireturn, 1) := by decide +kernel
theorem dX12_find_0 : decode cX12_find 0 = .ok (.iconst 0, 1) := by decide +kernel
theorem dX12_find_1 : decode cX12_find 1 = .ok (.istore_n 1, 1) := by decide +kernel
theorem dX12_find_2 : decode cX12_find 2 = .ok (.iload_n 1, 1) := by decide +kernel
theorem dX12_find_3 : decode cX12_find 3 = .ok (.aload_n 0, 1) := by decide +kernel
theorem dX12_find_4 : decode cX12_find 4 = .ok (.getfield 213, 3) := by decide +kernel
theorem dX12_find_7 : decode cX12_find 7 = .ok (.if_icmp .ge 35, 3) := by decide +kernel
theorem dX12_find_10 : decode cX12_find 10 = .ok (.aload_n 0, 1) := by decide +kernel
theorem dX12_find_11 : decode cX12_find 11 = .ok (.getfield 109, 3) := by decide +kernel
theorem dX12_find_14 : decode cX12_find 14 = .ok (.iload_n 1, 1) := by decide +kernel
theorem dX12_find_15 : decode cX12_find 15 = .ok (.laload, 1) := by decide +kernel
theorem dX12_find_16 : decode cX12_find 16 = .ok (.aload_n 0, 1) := by decide +kernel
theorem dX12_find_17 : decode cX12_find 17 = .ok (.getfield 30, 3) := by decide +kernel
theorem dX12_find_20 : decode cX12_find 20 = .ok (.aload_n 0, 1) := by decide +kernel
theorem dX12_find_21 : decode cX12_find 21 = .ok (.getfield 188, 3) := by decide +kernel
theorem dX12_find_24 : decode cX12_find 24 = .ok (.laload, 1) := by decide +kernel
theorem dX12_find_25 : decode cX12_find 25 = .ok (.lcmp, 1) := by decide +kernel
theorem dX12_find_26 : decode cX12_find 26 = .ok (.ifCond .ne 10, 3) := by decide +kernel
theorem dX12_find_29 : decode cX12_find 29 = .ok (.aload_n 0, 1) := by decide +kernel
theorem dX12_find_30 : decode cX12_find 30 = .ok (.getfield 112, 3) := by decide +kernel
theorem dX12_find_33 : decode cX12_find 33 = .ok (.iload_n 1, 1) := by decide +kernel
theorem dX12_find_34 : decode cX12_find 34 = .ok (.iaload, 1) := by decide +kernel
theorem dX12_find_35 : decode cX12_find 35 = .ok (.ireturn, 1) := by decide +kernel
theorem dX12_find_36 : decode cX12_find 36 = .ok (.iinc 1 1, 3) := by decide +kernel
theorem dX12_find_39 : decode cX12_find 39 = .ok (.goto (-37), 3) := by decide +kernel
theorem dX12_find_42 : decode cX12_find 42 = .ok (.iconst (-1), 1) := by decide +kernel
theorem dX12_find_43 : decode cX12_find 43 = .ok (.ireturn, 1) := by decide +kernel
theorem dX12_mountain_0 : decode cX12_mountain 0 = .ok (.aload_n 0, 1) := by decide +kernel
theorem dX12_mountain_1 : decode cX12_mountain 1 = .ok (.iconst 0, 1) := by decide +kernel
theorem dX12_mountain_2 : decode cX12_mountain 2 = .ok (.putfield 1, 3) := by decide +kernel
theorem dX12_mountain_5 : decode cX12_mountain 5 = .ok (.aload_n 0, 1) := by decide +kernel
theorem dX12_mountain_6 : decode cX12_mountain 6 = .ok (.invokevirtual 216, 3) := by decide +kernel
theorem dX12_mountain_9 : decode cX12_mountain 9 = .ok (.aload_n 0, 1) := by decide +kernel
theorem dX12_mountain_10 : decode cX12_mountain 10 = .ok (.iconst 0, 1) := by decide +kernel
theorem dX12_mountain_11 : decode cX12_mountain 11 = .ok (.putfield 219, 3) := by decide +kernel
theorem dX12_mountain_14 : decode cX12_mountain 14 = .ok (.aload_n 0, 1) := by decide +kernel
theorem dX12_mountain_15 : decode cX12_mountain 15 = .ok (.iconst 0, 1) := by decide +kernel
theorem dX12_mountain_16 : decode cX12_mountain 16 = .ok (.putfield 213, 3) := by decide +kernel
theorem dX12_mountain_19 : decode cX12_mountain 19 = .ok (.aload_n 0, 1) := by decide +kernel
theorem dX12_mountain_20 : decode cX12_mountain 20 = .ok (.iconst 0, 1) := by decide +kernel
theorem dX12_mountain_21 : decode cX12_mountain 21 = .ok (.putfield 222, 3) := by decide +kernel
theorem dX12_mountain_24 : decode cX12_mountain 24 = .ok (.aload_n 0, 1) := by decide +kernel
theorem dX12_mountain_25 : decode cX12_mountain 25 = .ok (.sipush 160, 3) := by decide +kernel
theorem dX12_mountain_28 : decode cX12_mountain 28 = .ok (.invokevirtual 158, 3) := by decide +kernel
theorem dX12_mountain_31 : decode cX12_mountain 31 = .ok (.iconst 0, 1) := by decide +kernel
theorem dX12_mountain_32 : decode cX12_mountain 32 = .ok (.istore_n 1, 1) := by decide +kernel
theorem dX12_mountain_33 : decode cX12_mountain 33 = .ok (.iload_n 1, 1) := by decide +kernel
theorem dX12_mountain_34 : decode cX12_mountain 34 = .ok (.bipush 36, 2) := by decide +kernel
theorem dX12_mountain_36 : decode cX12_mountain 36 = .ok (.if_icmp .ge 16, 3) := by decide +kernel
theorem dX12_mountain_39 : decode cX12_mountain 39 = .ok (.aload_n 0, 1) := by decide +kernel
theorem dX12_mountain_40 : decode cX12_mountain 40 = .ok (.getfield 100, 3) := by decide +kernel
theorem dX12_mountain_43 : decode cX12_mountain 43 = .ok (.iload_n 1, 1) := by decide +kernel
theorem dX12_mountain_44 : decode cX12_mountain 44 = .ok (.iconst 0, 1) := by decide +kernel
theorem dX12_mountain_45 : decode cX12_mountain 45 = .ok (.iastore, 1) := by decide +kernel
theorem dX12_mountain_46 : decode cX12_mountain 46 = .ok (.iinc 1 1, 3) := by decide +kernel
theorem dX12_mountain_49 : decode cX12_mountain 49 = .ok (.goto (-16), 3) := by decide +kernel
theorem dX12_mountain_52 : decode cX12_mountain 52 = .ok (.aload_n 0, 1) := by decide +kernel
theorem dX12_mountain_53 : decode cX12_mountain 53 = .ok (.getfield 191, 3) := by decide +kernel
theorem dX12_mountain_56 : decode cX12_mountain 56 = .ok (.ifCond .ne 28, 3) := by decide +kernel
theorem dX12_mountain_59 : decode cX12_mountain 59 = .ok (.aload_n 0, 1) := by decide +kernel
theorem dX12_mountain_60 : decode cX12_mountain 60 = .ok (.getfield 24, 3) := by decide +kernel
theorem dX12_mountain_63 : decode cX12_mountain 63 = .ok (.aload_n 0, 1) := by decide +kernel
theorem dX12_mountain_64 : decode cX12_mountain 64 = .ok (.getfield 188, 3) := by decide +kernel
theorem dX12_mountain_67 : decode cX12_mountain 67 = .ok (.iaload, 1) := by decide +kernel
theorem dX12_mountain_68 : decode cX12_mountain 68 = .ok (.ifCond .eq 16, 3) := by decide +kernel
theorem dX12_mountain_71 : decode cX12_mountain 71 = .ok (.aload_n 0, 1) := by decide +kernel
theorem dX12_mountain_72 : decode cX12_mountain 72 = .ok (.invokevirtual 225, 3) := by decide +kernel
theorem dX12_mountain_75 : decode cX12_mountain 75 = .ok (.aload_n 0, 1) := by decide +kernel
theorem dX12_mountain_76 : decode cX12_mountain 76 = .ok (.bipush 59, 2) := by decide +kernel
theorem dX12_mountain_78 : decode cX12_mountain 78 = .ok (.invokevirtual 228, 3) := by decide +kernel
theorem dX12_mountain_81 : decode cX12_mountain 81 = .ok (.goto (-29), 3) := by decide +kernel
theorem dX12_mountain_84 : decode cX12_mountain 84 = .ok (.aload_n 0, 1) := by decide +kernel
theorem dX12_mountain_85 : decode cX12_mountain 85 = .ok (.getfield 191, 3) := by decide +kernel
theorem dX12_mountain_88 : decode cX12_mountain 88 = .ok (.ifCond .le 8, 3) := by decide +kernel
theorem dX12_mountain_91 : decode cX12_mountain 91 = .ok (.aload_n 0, 1) := by decide +kernel
theorem dX12_mountain_92 : decode cX12_mountain 92 = .ok (.getfield 191, 3) := by decide +kernel
theorem dX12_mountain_95 : decode cX12_mountain 95 = .ok (.ireturn, 1) := by decide +kernel
theorem dX12_mountain_96 : decode cX12_mountain 96 = .ok (.iconst 0, 1) := by decide +kernel
theorem dX12_mountain_97 : decode cX12_mountain 97 = .ok (.istore_n 1, 1) := by decide +kernel
theorem dX12_mountain_98 : decode cX12_mountain 98 = .ok (.iload_n 1, 1) := by decide +kernel
theorem dX12_mountain_99 : decode cX12_mountain 99 = .ok (.sipush 160, 3) := by decide +kernel
theorem dX12_mountain_102 : decode cX12_mountain 102 = .ok (.if_icmp .ge 25, 3) := by decide +kernel
theorem dX12_mountain_105 : decode cX12_mountain 105 = .ok (.aload_n 0, 1) := by decide +kernel
theorem dX12_mountain_106 : decode cX12_mountain 106 = .ok (.getfield 97, 3) := by decide +kernel
theorem dX12_mountain_109 : decode cX12_mountain 109 = .ok (.iload_n 1, 1) := by decide +kernel
theorem dX12_mountain_110 : decode cX12_mountain 110 = .ok (.aload_n 0, 1) := by decide +kernel
theorem dX12_mountain_111 : decode cX12_mountain 111 = .ok (.getfield 97, 3) := by decide +kernel
theorem dX12_mountain_114 : decode cX12_mountain 114 = .ok (.sipush 160, 3) := by decide +kernel
theorem dX12_mountain_117 : decode cX12_mountain 117 = .ok (.iload_n 1, 1) := by decide +kernel
theorem dX12_mountain_118 : decode cX12_mountain 118 = .ok (.iadd, 1) := by decide +kernel
theorem dX12_mountain_119 : decode cX12_mountain 119 = .ok (.iaload, 1) := by decide +kernel
theorem dX12_mountain_120 : decode cX12_mountain 120 = .ok (.iastore, 1) := by decide +kernel
theorem dX12_mountain_121 : decode cX12_mountain 121 = .ok (.iinc 1 1, 3) := by decide +kernel
theorem dX12_mountain_124 : decode cX12_mountain 124 = .ok (.goto (-26), 3) := by decide +kernel
theorem dX12_mountain_127 : decode cX12_mountain 127 = .ok (.iconst 0, 1) := by decide +kernel
theorem dX12_mountain_128 : decode cX12_mountain 128 = .ok (.istore_n 1, 1) := by decide +kernel
theorem dX12_mountain_129 : decode cX12_mountain 129 = .ok (.iload_n 1, 1) := by decide +kernel
theorem dX12_mountain_130 : decode cX12_mountain 130 = .ok (.aload_n 0, 1) := by decide +kernel
theorem dX12_mountain_131 : decode cX12_mountain 131 = .ok (.getfield 219, 3) := by decide +kernel
theorem dX12_mountain_134 : decode cX12_mountain 134 = .ok (.if_icmp .ge 41, 3) := by decide +kernel
theorem dX12_mountain_137 : decode cX12_mountain 137 = .ok (.aload_n 0, 1) := by decide +kernel
theorem dX12_mountain_138 : decode cX12_mountain 138 = .ok (.getfield 103, 3) := by decide +kernel
theorem dX12_mountain_141 : decode cX12_mountain 141 = .ok (.iload_n 1, 1) := by decide +kernel
theorem dX12_mountain_142 : decode cX12_mountain 142 = .ok (.aload_n 0, 1) := by decide +kernel
theorem dX12_mountain_143 : decode cX12_mountain 143 = .ok (.getfield 103, 3) := by decide +kernel
theorem dX12_mountain_146 : decode cX12_mountain 146 = .ok (.sipush 1100, 3) := by decide +kernel
theorem dX12_mountain_149 : decode cX12_mountain 149 = .ok (.iload_n 1, 1) := by decide +kernel
theorem dX12_mountain_150 : decode cX12_mountain 150 = .ok (.iadd, 1) := by decide +kernel
theorem dX12_mountain_151 : decode cX12_mountain 151 = .ok (.iaload, 1) := by decide +kernel
theorem dX12_mountain_152 : decode cX12_mountain 152 = .ok (.iastore, 1) := by decide +kernel
theorem dX12_mountain_153 : decode cX12_mountain 153 = .ok (.aload_n 0, 1) := by decide +kernel
theorem dX12_mountain_154 : decode cX12_mountain 154 = .ok (.getfield 106, 3) := by decide +kernel
theorem dX12_mountain_157 : decode cX12_mountain 157 = .ok (.iload_n 1, 1) := by decide +kernel
theorem dX12_mountain_158 : decode cX12_mountain 158 = .ok (.aload_n 0, 1) := by decide +kernel
theorem dX12_mountain_159 : decode cX12_mountain 159 = .ok (.getfield 106, 3) := by decide +kernel
theorem dX12_mountain_162 : decode cX12_mountain 162 = .ok (.sipush 1100, 3) := by decide +kernel
theorem dX12_mountain_165 : decode cX12_mountain 165 = .ok (.iload_n 1, 1) := by decide +kernel
theorem dX12_mountain_166 : decode cX12_mountain 166 = .ok (.iadd, 1) := by decide +kernel
theorem dX12_mountain_167 : decode cX12_mountain 167 = .ok (.iaload, 1) := by decide +kernel
theorem dX12_mountain_168 : decode cX12_mountain 168 = .ok (.iastore, 1) := by decide +kernel
theorem dX12_mountain_169 : decode cX12_mountain 169 = .ok (.iinc 1 1, 3) := by decide +kernel
theorem dX12_mountain_172 : decode cX12_mountain 172 = .ok (.goto (-43), 3) := by decide +kernel
theorem dX12_mountain_175 : decode cX12_mountain 175 = .ok (.iconst 0, 1) := by decide +kernel
theorem dX12_mountain_176 : decode cX12_mountain 176 = .ok (.istore_n 1, 1) := by decide +kernel
theorem dX12_mountain_177 : decode cX12_mountain 177 = .ok (.iload_n 1, 1) := by decide +kernel
theorem dX12_mountain_178 : decode cX12_mountain 178 = .ok (.sipush 240, 3) := by decide +kernel
theorem dX12_mountain_181 : decode cX12_mountain 181 = .ok (.if_icmp .ge 31, 3) := by decide +kernel
theorem dX12_mountain_184 : decode cX12_mountain 184 = .ok (.aload_n 0, 1) := by decide +kernel
theorem dX12_mountain_185 : decode cX12_mountain 185 = .ok (.getfield 127, 3) := by decide +kernel
theorem dX12_mountain_188 : decode cX12_mountain 188 = .ok (.iload_n 1, 1) := by decide +kernel
theorem dX12_mountain_189 : decode cX12_mountain 189 = .ok (.iload_n 1, 1) := by decide +kernel
theorem dX12_mountain_190 : decode cX12_mountain 190 = .ok (.bipush 36, 2) := by decide +kernel
theorem dX12_mountain_192 : decode cX12_mountain 192 = .ok (.if_icmp .ge 12, 3) := by decide +kernel
theorem dX12_mountain_195 : decode cX12_mountain 195 = .ok (.aload_n 0, 1) := by decide +kernel
theorem dX12_mountain_196 : decode cX12_mountain 196 = .ok (.getfield 100, 3) := by decide +kernel
theorem dX12_mountain_199 : decode cX12_mountain 199 = .ok (.iload_n 1, 1) := by decide +kernel
theorem dX12_mountain_200 : decode cX12_mountain 200 = .ok (.iaload, 1) := by decide +kernel
theorem dX12_mountain_201 : decode cX12_mountain 201 = .ok (.goto 4, 3) := by decide +kernel
theorem dX12_mountain_204 : decode cX12_mountain 204 = .ok (.iconst 0, 1) := by decide +kernel
theorem dX12_mountain_205 : decode cX12_mountain 205 = .ok (.iastore, 1) := by decide +kernel
theorem dX12_mountain_206 : decode cX12_mountain 206 = .ok (.iinc 1 1, 3) := by decide +kernel
theorem dX12_mountain_209 : decode cX12_mountain 209 = .ok (.goto (-32), 3) := by decide +kernel
theorem dX12_mountain_212 : decode cX12_mountain 212 = .ok (.aload_n 0, 1) := by decide +kernel
theorem dX12_mountain_213 : decode cX12_mountain 213 = .ok (.invokevirtual 162, 3) := by decide +kernel
theorem dX12_mountain_216 : decode cX12_mountain 216 = .ok (.aload_n 0, 1) := by decide +kernel
theorem dX12_mountain_217 : decode cX12_mountain 217 = .ok (.iconst 0, 1) := by decide +kernel
theorem dX12_mountain_218 : decode cX12_mountain 218 = .ok (.putfield 231, 3) := by decide +kernel
theorem dX12_mountain_221 : decode cX12_mountain 221 = .ok (.iconst 0, 1) := by decide +kernel
theorem dX12_mountain_222 : decode cX12_mountain 222 = .ok (.istore_n 1, 1) := by decide +kernel
theorem dX12_mountain_223 : decode cX12_mountain 223 = .ok (.iload_n 1, 1) := by decide +kernel
theorem dX12_mountain_224 : decode cX12_mountain 224 = .ok (.iconst 4, 1) := by decide +kernel
theorem dX12_mountain_225 : decode cX12_mountain 225 = .ok (.if_icmp .ge 16, 3) := by decide +kernel
theorem dX12_mountain_228 : decode cX12_mountain 228 = .ok (.aload_n 0, 1) := by decide +kernel
theorem dX12_mountain_229 : decode cX12_mountain 229 = .ok (.getfield 130, 3) := by decide +kernel
theorem dX12_mountain_232 : decode cX12_mountain 232 = .ok (.iload_n 1, 1) := by decide +kernel
theorem dX12_mountain_233 : decode cX12_mountain 233 = .ok (.iconst 0, 1) := by decide +kernel
theorem dX12_mountain_234 : decode cX12_mountain 234 = .ok (.bastore, 1) := by decide +kernel
theorem dX12_mountain_235 : decode cX12_mountain 235 = .ok (.iinc 1 1, 3) := by decide +kernel
theorem dX12_mountain_238 : decode cX12_mountain 238 = .ok (.goto (-15), 3) := by decide +kernel
theorem dX12_mountain_241 : decode cX12_mountain 241 = .ok (.aload_n 0, 1) := by decide +kernel
theorem dX12_mountain_242 : decode cX12_mountain 242 = .ok (.invokevirtual 234, 3) := by decide +kernel
theorem dX12_mountain_245 : decode cX12_mountain 245 = .ok (.iconst 0, 1) := by decide +kernel
theorem dX12_mountain_246 : decode cX12_mountain 246 = .ok (.ireturn, 1) := by decide +kernel
theorem dX12_readLine_0 : decode cX12_readLine 0 = .ok (.aload_n 0, 1) := by decide +kernel
theorem dX12_readLine_1 : decode cX12_readLine 1 = .ok (.iconst 0, 1) := by decide +kernel
theorem dX12_readLine_2 : decode cX12_readLine 2 = .ok (.invokevirtual 200, 3) := by decide +kernel
theorem dX12_readLine_5 : decode cX12_readLine 5 = .ok (.ifCond .eq 10, 3) := by decide +kernel
theorem dX12_readLine_8 : decode cX12_readLine 8 = .ok (.aload_n 0, 1) := by decide +kernel
theorem dX12_readLine_9 : decode cX12_readLine 9 = .ok (.invokevirtual 237, 3) := by decide +kernel
theorem dX12_readLine_12 : decode cX12_readLine 12 = .ok (.goto 79, 3) := by decide +kernel
theorem dX12_readLine_15 : decode cX12_readLine 15 = .ok (.aload_n 0, 1) := by decide +kernel
theorem dX12_readLine_16 : decode cX12_readLine 16 = .ok (.iconst 3, 1) := by decide +kernel
theorem dX12_readLine_17 : decode cX12_readLine 17 = .ok (.invokevirtual 200, 3) := by decide +kernel
theorem dX12_readLine_20 : decode cX12_readLine 20 = .ok (.ifCond .eq 10, 3) := by decide +kernel
theorem dX12_readLine_23 : decode cX12_readLine 23 = .ok (.aload_n 0, 1) := by decide +kernel
theorem dX12_readLine_24 : decode cX12_readLine 24 = .ok (.invokevirtual 240, 3) := by decide +kernel
theorem dX12_readLine_27 : decode cX12_readLine 27 = .ok (.goto 64, 3) := by decide +kernel
theorem dX12_readLine_30 : decode cX12_readLine 30 = .ok (.aload_n 0, 1) := by decide +kernel
theorem dX12_readLine_31 : decode cX12_readLine 31 = .ok (.bipush 6, 2) := by decide +kernel
theorem dX12_readLine_33 : decode cX12_readLine 33 = .ok (.invokevirtual 200, 3) := by decide +kernel
theorem dX12_readLine_36 : decode cX12_readLine 36 = .ok (.ifCond .eq 10, 3) := by decide +kernel
theorem dX12_readLine_39 : decode cX12_readLine 39 = .ok (.aload_n 0, 1) := by decide +kernel
theorem dX12_readLine_40 : decode cX12_readLine 40 = .ok (.invokevirtual 243, 3) := by decide +kernel
theorem dX12_readLine_43 : decode cX12_readLine 43 = .ok (.goto 48, 3) := by decide +kernel
theorem dX12_readLine_46 : decode cX12_readLine 46 = .ok (.aload_n 0, 1) := by decide +kernel
theorem dX12_readLine_47 : decode cX12_readLine 47 = .ok (.bipush 10, 2) := by decide +kernel
theorem dX12_readLine_49 : decode cX12_readLine 49 = .ok (.invokevirtual 200, 3) := by decide +kernel
theorem dX12_readLine_52 : decode cX12_readLine 52 = .ok (.ifCond .eq 10, 3) := by decide +kernel
theorem dX12_readLine_55 : decode cX12_readLine 55 = .ok (.aload_n 0, 1) := by decide +kernel
theorem dX12_readLine_56 : decode cX12_readLine 56 = .ok (.invokevirtual 246, 3) := by decide +kernel
theorem dX12_readLine_59 : decode cX12_readLine 59 = .ok (.goto 32, 3) := by decide +kernel
theorem dX12_readLine_62 : decode cX12_readLine 62 = .ok (.aload_n 0, 1) := by decide +kernel
theorem dX12_readLine_63 : decode cX12_readLine 63 = .ok (.bipush 11, 2) := by decide +kernel
theorem dX12_readLine_65 : decode cX12_readLine 65 = .ok (.invokevirtual 200, 3) := by decide +kernel
theorem dX12_readLine_68 : decode cX12_readLine 68 = .ok (.ifCond .ne 12, 3) := by decide +kernel
theorem dX12_readLine_71 : decode cX12_readLine 71 = .ok (.aload_n 0, 1) := by decide +kernel
theorem dX12_readLine_72 : decode cX12_readLine 72 = .ok (.bipush 12, 2) := by decide +kernel
theorem dX12_readLine_74 : decode cX12_readLine 74 = .ok (.invokevirtual 200, 3) := by decide +kernel
theorem dX12_readLine_77 : decode cX12_readLine 77 = .ok (.ifCond .eq 10, 3) := by decide +kernel
theorem dX12_readLine_80 : decode cX12_readLine 80 = .ok (.aload_n 0, 1) := by decide +kernel
theorem dX12_readLine_81 : decode cX12_readLine 81 = .ok (.invokevirtual 249, 3) := by decide +kernel
theorem dX12_readLine_84 : decode cX12_readLine 84 = .ok (.goto 7, 3) := by decide +kernel
theorem dX12_readLine_87 : decode cX12_readLine 87 = .ok (.aload_n 0, 1) := by decide +kernel
theorem dX12_readLine_88 : decode cX12_readLine 88 = .ok (.invokevirtual 252, 3) := by decide +kernel
theorem dX12_readLine_91 : decode cX12_readLine 91 = .ok (.return_, 1) := by decide +kernel
theorem dX12_readOnce_0 : decode cX12_readOnce 0 = .ok (.iconst (-1), 1) := by decide +kernel
theorem dX12_readOnce_1 : decode cX12_readOnce 1 = .ok (.istore_n 1, 1) := by decide +kernel
theorem dX12_readOnce_2 : decode cX12_readOnce 2 = .ok (.iconst 0, 1) := by decide +kernel
theorem dX12_readOnce_3 : decode cX12_readOnce 3 = .ok (.istore_n 2, 1) := by decide +kernel
theorem dX12_readOnce_4 : decode cX12_readOnce 4 = .ok (.iload_n 2, 1) := by decide +kernel
theorem dX12_readOnce_5 : decode cX12_readOnce 5 = .ok (.iconst 3, 1) := by decide +kernel
theorem dX12_readOnce_6 : decode cX12_readOnce 6 = .ok (.if_icmp .ge 26, 3) := by decide +kernel
theorem dX12_readOnce_9 : decode cX12_readOnce 9 = .ok (.aload_n 0, 1) := by decide +kernel
theorem dX12_readOnce_10 : decode cX12_readOnce 10 = .ok (.bipush 13, 2) := by decide +kernel
theorem dX12_readOnce_12 : decode cX12_readOnce 12 = .ok (.iload_n 2, 1) := by decide +kernel
theorem dX12_readOnce_13 : decode cX12_readOnce 13 = .ok (.iadd, 1) := by decide +kernel
theorem dX12_readOnce_14 : decode cX12_readOnce 14 = .ok (.invokevirtual 200, 3) := by decide +kernel
theorem dX12_readOnce_17 : decode cX12_readOnce 17 = .ok (.ifCond .eq 7, 3) := by decide +kernel
theorem dX12_readOnce_20 : decode cX12_readOnce 20 = .ok (.iload_n 2, 1) := by decide +kernel
theorem dX12_readOnce_21 : decode cX12_readOnce 21 = .ok (.goto 4, 3) := by decide +kernel
theorem dX12_readOnce_24 : decode cX12_readOnce 24 = .ok (.iload_n 1, 1) := by decide +kernel
theorem dX12_readOnce_25 : decode cX12_readOnce 25 = .ok (.istore_n 1, 1) := by decide +kernel
theorem dX12_readOnce_26 : decode cX12_readOnce 26 = .ok (.iinc 2 1, 3) := by decide +kernel
theorem dX12_readOnce_29 : decode cX12_readOnce 29 = .ok (.goto (-25), 3) := by decide +kernel
theorem dX12_readOnce_32 : decode cX12_readOnce 32 = .ok (.iload_n 1, 1) := by decide +kernel
theorem dX12_readOnce_33 : decode cX12_readOnce 33 = .ok (.ifCond .ge 11, 3) := by decide +kernel
theorem dX12_readOnce_36 : decode cX12_readOnce 36 = .ok (.aload_n 0, 1) := by decide +kernel
theorem dX12_readOnce_37 : decode cX12_readOnce 37 = .ok (.iconst 1, 1) := by decide +kernel
theorem dX12_readOnce_38 : decode cX12_readOnce 38 = .ok (.invokevirtual 197, 3) := by decide +kernel
theorem dX12_readOnce_41 : decode cX12_readOnce 41 = .ok (.goto 20, 3) := by decide +kernel
theorem dX12_readOnce_44 : decode cX12_readOnce 44 = .ok (.aload_n 0, 1) := by decide +kernel
theorem dX12_readOnce_45 : decode cX12_readOnce 45 = .ok (.getfield 222, 3) := by decide +kernel
theorem dX12_readOnce_48 : decode cX12_readOnce 48 = .ok (.iload_n 1, 1) := by decide +kernel
theorem dX12_readOnce_49 : decode cX12_readOnce 49 = .ok (.ishr, 1) := by decide +kernel
theorem dX12_readOnce_50 : decode cX12_readOnce 50 = .ok (.iconst 1, 1) := by decide +kernel
theorem dX12_readOnce_51 : decode cX12_readOnce 51 = .ok (.iand, 1) := by decide +kernel
theorem dX12_readOnce_52 : decode cX12_readOnce 52 = .ok (.iconst 1, 1) := by decide +kernel
theorem dX12_readOnce_53 : decode cX12_readOnce 53 = .ok (.if_icmp .ne 8, 3) := by decide +kernel
theorem dX12_readOnce_56 : decode cX12_readOnce 56 = .ok (.aload_n 0, 1) := by decide +kernel
theorem dX12_readOnce_57 : decode cX12_readOnce 57 = .ok (.iconst 3, 1) := by decide +kernel
theorem dX12_readOnce_58 : decode cX12_readOnce 58 = .ok (.invokevirtual 197, 3) := by decide +kernel
theorem dX12_readOnce_61 : decode cX12_readOnce 61 = .ok (.aload_n 0, 1) := by decide +kernel
theorem dX12_readOnce_62 : decode cX12_readOnce 62 = .ok (.getfield 191, 3) := by decide +kernel
theorem dX12_readOnce_65 : decode cX12_readOnce 65 = .ok (.ifCond .le 4, 3) := by decide +kernel
theorem dX12_readOnce_68 : decode cX12_readOnce 68 = .ok (.return_, 1) := by decide +kernel
theorem dX12_readOnce_69 : decode cX12_readOnce 69 = .ok (.aload_n 0, 1) := by decide +kernel
theorem dX12_readOnce_70 : decode cX12_readOnce 70 = .ok (.dup, 1) := by decide +kernel
theorem dX12_readOnce_71 : decode cX12_readOnce 71 = .ok (.getfield 222, 3) := by decide +kernel
theorem dX12_readOnce_74 : decode cX12_readOnce 74 = .ok (.iconst 1, 1) := by decide +kernel
theorem dX12_readOnce_75 : decode cX12_readOnce 75 = .ok (.iload_n 1, 1) := by decide +kernel
theorem dX12_readOnce_76 : decode cX12_readOnce 76 = .ok (.ishl, 1) := by decide +kernel
theorem dX12_readOnce_77 : decode cX12_readOnce 77 = .ok (.ior, 1) := by decide +kernel
theorem dX12_readOnce_78 : decode cX12_readOnce 78 = .ok (.putfield 222, 3) := by decide +kernel
theorem dX12_readOnce_81 : decode cX12_readOnce 81 = .ok (.aload_n 0, 1) := by decide +kernel
theorem dX12_readOnce_82 : decode cX12_readOnce 82 = .ok (.dup, 1) := by decide +kernel
theorem dX12_readOnce_83 : decode cX12_readOnce 83 = .ok (.getfield 188, 3) := by decide +kernel
theorem dX12_readOnce_86 : decode cX12_readOnce 86 = .ok (.iconst 1, 1) := by decide +kernel
theorem dX12_readOnce_87 : decode cX12_readOnce 87 = .ok (.iadd, 1) := by decide +kernel
theorem dX12_readOnce_88 : decode cX12_readOnce 88 = .ok (.putfield 188, 3) := by decide +kernel
theorem dX12_readOnce_91 : decode cX12_readOnce 91 = .ok (.aload_n 0, 1) := by decide +kernel
theorem dX12_readOnce_92 : decode cX12_readOnce 92 = .ok (.getfield 97, 3) := by decide +kernel
theorem dX12_readOnce_95 : decode cX12_readOnce 95 = .ok (.sipush 163, 3) := by decide +kernel
theorem dX12_readOnce_98 : decode cX12_readOnce 98 = .ok (.iload_n 1, 1) := by decide +kernel
theorem dX12_readOnce_99 : decode cX12_readOnce 99 = .ok (.iadd, 1) := by decide +kernel
theorem dX12_readOnce_100 : decode cX12_readOnce 100 = .ok (.aload_n 0, 1) := by decide +kernel
theorem dX12_readOnce_101 : decode cX12_readOnce 101 = .ok (.iload_n 1, 1) := by decide +kernel
theorem dX12_readOnce_102 : decode cX12_readOnce 102 = .ok (.iconst 2, 1) := by decide +kernel
theorem dX12_readOnce_103 : decode cX12_readOnce 103 = .ok (.if_icmp .ne 7, 3) := by decide +kernel
theorem dX12_readOnce_106 : decode cX12_readOnce 106 = .ok (.iconst 1, 1) := by decide +kernel
theorem dX12_readOnce_107 : decode cX12_readOnce 107 = .ok (.goto 4, 3) := by decide +kernel
theorem dX12_readOnce_110 : decode cX12_readOnce 110 = .ok (.iconst 0, 1) := by decide +kernel
theorem dX12_readOnce_111 : decode cX12_readOnce 111 = .ok (.iload_n 1, 1) := by decide +kernel
theorem dX12_readOnce_112 : decode cX12_readOnce 112 = .ok (.ifCond .ne 8, 3) := by decide +kernel
theorem dX12_readOnce_115 : decode cX12_readOnce 115 = .ok (.bipush 99, 2) := by decide +kernel
theorem dX12_readOnce_117 : decode cX12_readOnce 117 = .ok (.goto 17, 3) := by decide +kernel
theorem dX12_readOnce_120 : decode cX12_readOnce 120 = .ok (.iload_n 1, 1) := by decide +kernel
theorem dX12_readOnce_121 : decode cX12_readOnce 121 = .ok (.iconst 1, 1) := by decide +kernel
theorem dX12_readOnce_122 : decode cX12_readOnce 122 = .ok (.if_icmp .ne 9, 3) := by decide +kernel
theorem dX12_readOnce_125 : decode cX12_readOnce 125 = .ok (.sipush 200, 3) := by decide +kernel
theorem dX12_readOnce_128 : decode cX12_readOnce 128 = .ok (.goto 6, 3) := by decide +kernel
theorem dX12_readOnce_131 : decode cX12_readOnce 131 = .ok (.sipush 999, 3) := by decide +kernel
theorem dX12_readOnce_134 : decode cX12_readOnce 134 = .ok (.invokevirtual 209, 3) := by decide +kernel
theorem dX12_readOnce_137 : decode cX12_readOnce 137 = .ok (.iastore, 1) := by decide +kernel
theorem dX12_readOnce_138 : decode cX12_readOnce 138 = .ok (.return_, 1) := by decide +kernel
theorem dX12_readName_0 : decode cX12_readName 0 = .ok (.aload_n 0, 1) := by decide +kernel
theorem dX12_readName_1 : decode cX12_readName 1 = .ok (.dup, 1) := by decide +kernel
theorem dX12_readName_2 : decode cX12_readName 2 = .ok (.getfield 188, 3) := by decide +kernel
theorem dX12_readName_5 : decode cX12_readName 5 = .ok (.iconst 1, 1) := by decide +kernel
theorem dX12_readName_6 : decode cX12_readName 6 = .ok (.iadd, 1) := by decide +kernel
theorem dX12_readName_7 : decode cX12_readName 7 = .ok (.putfield 188, 3) := by decide +kernel
theorem dX12_readName_10 : decode cX12_readName 10 = .ok (.aload_n 0, 1) := by decide +kernel
theorem dX12_readName_11 : decode cX12_readName 11 = .ok (.invokevirtual 255, 3) := by decide +kernel
theorem dX12_readName_14 : decode cX12_readName 14 = .ok (.ifCond .ne 11, 3) := by decide +kernel
theorem dX12_readName_17 : decode cX12_readName 17 = .ok (.aload_n 0, 1) := by decide +kernel
theorem dX12_readName_18 : decode cX12_readName 18 = .ok (.iconst 1, 1) := by decide +kernel
theorem dX12_readName_19 : decode cX12_readName 19 = .ok (.invokevirtual 197, 3) := by decide +kernel
theorem dX12_readName_22 : decode cX12_readName 22 = .ok (.goto 15, 3) := by decide +kernel
theorem dX12_readName_25 : decode cX12_readName 25 = .ok (.aload_n 0, 1) := by decide +kernel
theorem dX12_readName_26 : decode cX12_readName 26 = .ok (.invokevirtual 259, 3) := by decide +kernel
theorem dX12_readName_29 : decode cX12_readName 29 = .ok (.ifCond .lt 8, 3) := by decide +kernel
theorem dX12_readName_32 : decode cX12_readName 32 = .ok (.aload_n 0, 1) := by decide +kernel
theorem dX12_readName_33 : decode cX12_readName 33 = .ok (.iconst 3, 1) := by decide +kernel
theorem dX12_readName_34 : decode cX12_readName 34 = .ok (.invokevirtual 197, 3) := by decide +kernel
theorem dX12_readName_37 : decode cX12_readName 37 = .ok (.aload_n 0, 1) := by decide +kernel
theorem dX12_readName_38 : decode cX12_readName 38 = .ok (.getfield 191, 3) := by decide +kernel
theorem dX12_readName_41 : decode cX12_readName 41 = .ok (.ifCond .ne 51, 3) := by decide +kernel
theorem dX12_readName_44 : decode cX12_readName 44 = .ok (.aload_n 0, 1) := by decide +kernel
theorem dX12_readName_45 : decode cX12_readName 45 = .ok (.getfield 109, 3) := by decide +kernel
theorem dX12_readName_48 : decode cX12_readName 48 = .ok (.aload_n 0, 1) := by decide +kernel
theorem dX12_readName_49 : decode cX12_readName 49 = .ok (.getfield 213, 3) := by decide +kernel
theorem dX12_readName_52 : decode cX12_readName 52 = .ok (.aload_n 0, 1) := by decide +kernel
theorem dX12_readName_53 : decode cX12_readName 53 = .ok (.getfield 30, 3) := by decide +kernel
theorem dX12_readName_56 : decode cX12_readName 56 = .ok (.aload_n 0, 1) := by decide +kernel
theorem dX12_readName_57 : decode cX12_readName 57 = .ok (.getfield 188, 3) := by decide +kernel
theorem dX12_readName_60 : decode cX12_readName 60 = .ok (.laload, 1) := by decide +kernel
theorem dX12_readName_61 : decode cX12_readName 61 = .ok (.lastore, 1) := by decide +kernel
theorem dX12_readName_62 : decode cX12_readName 62 = .ok (.aload_n 0, 1) := by decide +kernel
theorem dX12_readName_63 : decode cX12_readName 63 = .ok (.getfield 112, 3) := by decide +kernel
theorem dX12_readName_66 : decode cX12_readName 66 = .ok (.aload_n 0, 1) := by decide +kernel
theorem dX12_readName_67 : decode cX12_readName 67 = .ok (.getfield 213, 3) := by decide +kernel
theorem dX12_readName_70 : decode cX12_readName 70 = .ok (.iload_n 1, 1) := by decide +kernel
theorem dX12_readName_71 : decode cX12_readName 71 = .ok (.iastore, 1) := by decide +kernel
theorem dX12_readName_72 : decode cX12_readName 72 = .ok (.aload_n 0, 1) := by decide +kernel
theorem dX12_readName_73 : decode cX12_readName 73 = .ok (.dup, 1) := by decide +kernel
theorem dX12_readName_74 : decode cX12_readName 74 = .ok (.getfield 213, 3) := by decide +kernel
theorem dX12_readName_77 : decode cX12_readName 77 = .ok (.iconst 1, 1) := by decide +kernel
theorem dX12_readName_78 : decode cX12_readName 78 = .ok (.iadd, 1) := by decide +kernel
theorem dX12_readName_79 : decode cX12_readName 79 = .ok (.putfield 213, 3) := by decide +kernel
theorem dX12_readName_82 : decode cX12_readName 82 = .ok (.aload_n 0, 1) := by decide +kernel
theorem dX12_readName_83 : decode cX12_readName 83 = .ok (.dup, 1) := by decide +kernel
theorem dX12_readName_84 : decode cX12_readName 84 = .ok (.getfield 188, 3) := by decide +kernel
theorem dX12_readName_87 : decode cX12_readName 87 = .ok (.iconst 1, 1) := by decide +kernel
theorem dX12_readName_88 : decode cX12_readName 88 = .ok (.iadd, 1) := by decide +kernel
theorem dX12_readName_89 : decode cX12_readName 89 = .ok (.putfield 188, 3) := by decide +kernel
theorem dX12_readName_92 : decode cX12_readName 92 = .ok (.return_, 1) := by decide +kernel
theorem dX12_readStation_0 : decode cX12_readStation 0 = .ok (.aload_n 0, 1) := by decide +kernel
theorem dX12_readStation_1 : decode cX12_readStation 1 = .ok (.getfield 97, 3) := by decide +kernel
theorem dX12_readStation_4 : decode cX12_readStation 4 = .ok (.sipush 160, 3) := by decide +kernel
theorem dX12_readStation_7 : decode cX12_readStation 7 = .ok (.iaload, 1) := by decide +kernel
theorem dX12_readStation_8 : decode cX12_readStation 8 = .ok (.istore_n 1, 1) := by decide +kernel
theorem dX12_readStation_9 : decode cX12_readStation 9 = .ok (.iload_n 1, 1) := by decide +kernel
theorem dX12_readStation_10 : decode cX12_readStation 10 = .ok (.bipush 7, 2) := by decide +kernel
theorem dX12_readStation_12 : decode cX12_readStation 12 = .ok (.if_icmp .ne 9, 3) := by decide +kernel
theorem dX12_readStation_15 : decode cX12_readStation 15 = .ok (.aload_n 0, 1) := by decide +kernel
theorem dX12_readStation_16 : decode cX12_readStation 16 = .ok (.iconst 5, 1) := by decide +kernel
theorem dX12_readStation_17 : decode cX12_readStation 17 = .ok (.invokevirtual 197, 3) := by decide +kernel
theorem dX12_readStation_20 : decode cX12_readStation 20 = .ok (.return_, 1) := by decide +kernel
theorem dX12_readStation_21 : decode cX12_readStation 21 = .ok (.aload_n 0, 1) := by decide +kernel
theorem dX12_readStation_22 : decode cX12_readStation 22 = .ok (.iload_n 1, 1) := by decide +kernel
theorem dX12_readStation_23 : decode cX12_readStation 23 = .ok (.invokevirtual 263, 3) := by decide +kernel
theorem dX12_readStation_26 : decode cX12_readStation 26 = .ok (.aload_n 0, 1) := by decide +kernel
theorem dX12_readStation_27 : decode cX12_readStation 27 = .ok (.getfield 97, 3) := by decide +kernel
theorem dX12_readStation_30 : decode cX12_readStation 30 = .ok (.sipush 168, 3) := by decide +kernel
theorem dX12_readStation_33 : decode cX12_readStation 33 = .ok (.iconst 2, 1) := by decide +kernel
theorem dX12_readStation_34 : decode cX12_readStation 34 = .ok (.iload_n 1, 1) := by decide +kernel
theorem dX12_readStation_35 : decode cX12_readStation 35 = .ok (.imul, 1) := by decide +kernel
theorem dX12_readStation_36 : decode cX12_readStation 36 = .ok (.iadd, 1) := by decide +kernel
theorem dX12_readStation_37 : decode cX12_readStation 37 = .ok (.aload_n 0, 1) := by decide +kernel
theorem dX12_readStation_38 : decode cX12_readStation 38 = .ok (.iconst 1, 1) := by decide +kernel
theorem dX12_readStation_39 : decode cX12_readStation 39 = .ok (.iconst 0, 1) := by decide +kernel
theorem dX12_readStation_40 : decode cX12_readStation 40 = .ok (.bipush 99, 2) := by decide +kernel
theorem dX12_readStation_42 : decode cX12_readStation 42 = .ok (.invokevirtual 266, 3) := by decide +kernel
theorem dX12_readStation_45 : decode cX12_readStation 45 = .ok (.iastore, 1) := by decide +kernel
theorem dX12_readStation_46 : decode cX12_readStation 46 = .ok (.aload_n 0, 1) := by decide +kernel
theorem dX12_readStation_47 : decode cX12_readStation 47 = .ok (.getfield 97, 3) := by decide +kernel
theorem dX12_readStation_50 : decode cX12_readStation 50 = .ok (.sipush 168, 3) := by decide +kernel
theorem dX12_readStation_53 : decode cX12_readStation 53 = .ok (.iconst 2, 1) := by decide +kernel
theorem dX12_readStation_54 : decode cX12_readStation 54 = .ok (.iload_n 1, 1) := by decide +kernel
theorem dX12_readStation_55 : decode cX12_readStation 55 = .ok (.imul, 1) := by decide +kernel
theorem dX12_readStation_56 : decode cX12_readStation 56 = .ok (.iadd, 1) := by decide +kernel
theorem dX12_readStation_57 : decode cX12_readStation 57 = .ok (.iconst 1, 1) := by decide +kernel
theorem dX12_readStation_58 : decode cX12_readStation 58 = .ok (.iadd, 1) := by decide +kernel
theorem dX12_readStation_59 : decode cX12_readStation 59 = .ok (.aload_n 0, 1) := by decide +kernel
theorem dX12_readStation_60 : decode cX12_readStation 60 = .ok (.iconst 2, 1) := by decide +kernel
theorem dX12_readStation_61 : decode cX12_readStation 61 = .ok (.iconst 0, 1) := by decide +kernel
theorem dX12_readStation_62 : decode cX12_readStation 62 = .ok (.bipush 9, 2) := by decide +kernel
theorem dX12_readStation_64 : decode cX12_readStation 64 = .ok (.invokevirtual 266, 3) := by decide +kernel
theorem dX12_readStation_67 : decode cX12_readStation 67 = .ok (.iastore, 1) := by decide +kernel
theorem dX12_readStation_68 : decode cX12_readStation 68 = .ok (.aload_n 0, 1) := by decide +kernel
theorem dX12_readStation_69 : decode cX12_readStation 69 = .ok (.getfield 97, 3) := by decide +kernel
theorem dX12_readStation_72 : decode cX12_readStation 72 = .ok (.sipush 160, 3) := by decide +kernel
theorem dX12_readStation_75 : decode cX12_readStation 75 = .ok (.dup2, 1) := by decide +kernel
theorem dX12_readStation_76 : decode cX12_readStation 76 = .ok (.iaload, 1) := by decide +kernel
theorem dX12_readStation_77 : decode cX12_readStation 77 = .ok (.iconst 1, 1) := by decide +kernel
theorem dX12_readStation_78 : decode cX12_readStation 78 = .ok (.iadd, 1) := by decide +kernel
theorem dX12_readStation_79 : decode cX12_readStation 79 = .ok (.iastore, 1) := by decide +kernel
theorem dX12_readStation_80 : decode cX12_readStation 80 = .ok (.return_, 1) := by decide +kernel
theorem dX12_nameHere_0 : decode cX12_nameHere 0 = .ok (.iconst (-1), 1) := by decide +kernel
theorem dX12_nameHere_1 : decode cX12_nameHere 1 = .ok (.istore 4, 2) := by decide +kernel
theorem dX12_nameHere_3 : decode cX12_nameHere 3 = .ok (.aload_n 0, 1) := by decide +kernel
theorem dX12_nameHere_4 : decode cX12_nameHere 4 = .ok (.invokevirtual 255, 3) := by decide +kernel
theorem dX12_nameHere_7 : decode cX12_nameHere 7 = .ok (.ifCond .ne 11, 3) := by decide +kernel
theorem dX12_nameHere_10 : decode cX12_nameHere 10 = .ok (.aload_n 0, 1) := by decide +kernel
theorem dX12_nameHere_11 : decode cX12_nameHere 11 = .ok (.iconst 1, 1) := by decide +kernel
theorem dX12_nameHere_12 : decode cX12_nameHere 12 = .ok (.invokevirtual 197, 3) := by decide +kernel
theorem dX12_nameHere_15 : decode cX12_nameHere 15 = .ok (.goto 44, 3) := by decide +kernel
theorem dX12_nameHere_18 : decode cX12_nameHere 18 = .ok (.aload_n 0, 1) := by decide +kernel
theorem dX12_nameHere_19 : decode cX12_nameHere 19 = .ok (.invokevirtual 259, 3) := by decide +kernel
theorem dX12_nameHere_22 : decode cX12_nameHere 22 = .ok (.iload_n 1, 1) := by decide +kernel
theorem dX12_nameHere_23 : decode cX12_nameHere 23 = .ok (.isub, 1) := by decide +kernel
theorem dX12_nameHere_24 : decode cX12_nameHere 24 = .ok (.istore 4, 2) := by decide +kernel
theorem dX12_nameHere_26 : decode cX12_nameHere 26 = .ok (.aload_n 0, 1) := by decide +kernel
theorem dX12_nameHere_27 : decode cX12_nameHere 27 = .ok (.invokevirtual 259, 3) := by decide +kernel
theorem dX12_nameHere_30 : decode cX12_nameHere 30 = .ok (.iload_n 1, 1) := by decide +kernel
theorem dX12_nameHere_31 : decode cX12_nameHere 31 = .ok (.if_icmp .lt 9, 3) := by decide +kernel
theorem dX12_nameHere_34 : decode cX12_nameHere 34 = .ok (.iload 4, 2) := by decide +kernel
theorem dX12_nameHere_36 : decode cX12_nameHere 36 = .ok (.iload_n 2, 1) := by decide +kernel
theorem dX12_nameHere_37 : decode cX12_nameHere 37 = .ok (.if_icmp .lt 11, 3) := by decide +kernel
theorem dX12_nameHere_40 : decode cX12_nameHere 40 = .ok (.aload_n 0, 1) := by decide +kernel
theorem dX12_nameHere_41 : decode cX12_nameHere 41 = .ok (.iconst 2, 1) := by decide +kernel
theorem dX12_nameHere_42 : decode cX12_nameHere 42 = .ok (.invokevirtual 197, 3) := by decide +kernel
theorem dX12_nameHere_45 : decode cX12_nameHere 45 = .ok (.goto 14, 3) := by decide +kernel
theorem dX12_nameHere_48 : decode cX12_nameHere 48 = .ok (.iload 4, 2) := by decide +kernel
theorem dX12_nameHere_50 : decode cX12_nameHere 50 = .ok (.iload_n 3, 1) := by decide +kernel
theorem dX12_nameHere_51 : decode cX12_nameHere 51 = .ok (.if_icmp .ne 8, 3) := by decide +kernel
theorem dX12_nameHere_54 : decode cX12_nameHere 54 = .ok (.aload_n 0, 1) := by decide +kernel
theorem dX12_nameHere_55 : decode cX12_nameHere 55 = .ok (.iconst 3, 1) := by decide +kernel
theorem dX12_nameHere_56 : decode cX12_nameHere 56 = .ok (.invokevirtual 197, 3) := by decide +kernel
theorem dX12_nameHere_59 : decode cX12_nameHere 59 = .ok (.iload 4, 2) := by decide +kernel
theorem dX12_nameHere_61 : decode cX12_nameHere 61 = .ok (.ireturn, 1) := by decide +kernel
theorem dX12_readWay_0 : decode cX12_readWay 0 = .ok (.aload_n 0, 1) := by decide +kernel
theorem dX12_readWay_1 : decode cX12_readWay 1 = .ok (.getfield 97, 3) := by decide +kernel
theorem dX12_readWay_4 : decode cX12_readWay 4 = .ok (.sipush 161, 3) := by decide +kernel
theorem dX12_readWay_7 : decode cX12_readWay 7 = .ok (.iaload, 1) := by decide +kernel
theorem dX12_readWay_8 : decode cX12_readWay 8 = .ok (.istore_n 1, 1) := by decide +kernel
theorem dX12_readWay_9 : decode cX12_readWay 9 = .ok (.iload_n 1, 1) := by decide +kernel
theorem dX12_readWay_10 : decode cX12_readWay 10 = .ok (.bipush 12, 2) := by decide +kernel
theorem dX12_readWay_12 : decode cX12_readWay 12 = .ok (.if_icmp .ne 9, 3) := by decide +kernel
theorem dX12_readWay_15 : decode cX12_readWay 15 = .ok (.aload_n 0, 1) := by decide +kernel
theorem dX12_readWay_16 : decode cX12_readWay 16 = .ok (.iconst 5, 1) := by decide +kernel
theorem dX12_readWay_17 : decode cX12_readWay 17 = .ok (.invokevirtual 197, 3) := by decide +kernel
theorem dX12_readWay_20 : decode cX12_readWay 20 = .ok (.return_, 1) := by decide +kernel
theorem dX12_readWay_21 : decode cX12_readWay 21 = .ok (.aload_n 0, 1) := by decide +kernel
theorem dX12_readWay_22 : decode cX12_readWay 22 = .ok (.dup, 1) := by decide +kernel
theorem dX12_readWay_23 : decode cX12_readWay 23 = .ok (.getfield 188, 3) := by decide +kernel
theorem dX12_readWay_26 : decode cX12_readWay 26 = .ok (.iconst 1, 1) := by decide +kernel
theorem dX12_readWay_27 : decode cX12_readWay 27 = .ok (.iadd, 1) := by decide +kernel
theorem dX12_readWay_28 : decode cX12_readWay 28 = .ok (.putfield 188, 3) := by decide +kernel
theorem dX12_readWay_31 : decode cX12_readWay 31 = .ok (.aload_n 0, 1) := by decide +kernel
theorem dX12_readWay_32 : decode cX12_readWay 32 = .ok (.iconst 0, 1) := by decide +kernel
theorem dX12_readWay_33 : decode cX12_readWay 33 = .ok (.bipush 7, 2) := by decide +kernel
theorem dX12_readWay_35 : decode cX12_readWay 35 = .ok (.iconst (-1), 1) := by decide +kernel
theorem dX12_readWay_36 : decode cX12_readWay 36 = .ok (.invokevirtual 270, 3) := by decide +kernel
theorem dX12_readWay_39 : decode cX12_readWay 39 = .ok (.istore_n 2, 1) := by decide +kernel
theorem dX12_readWay_40 : decode cX12_readWay 40 = .ok (.aload_n 0, 1) := by decide +kernel
theorem dX12_readWay_41 : decode cX12_readWay 41 = .ok (.dup, 1) := by decide +kernel
theorem dX12_readWay_42 : decode cX12_readWay 42 = .ok (.getfield 188, 3) := by decide +kernel
theorem dX12_readWay_45 : decode cX12_readWay 45 = .ok (.aload_n 0, 1) := by decide +kernel
theorem dX12_readWay_46 : decode cX12_readWay 46 = .ok (.getfield 191, 3) := by decide +kernel
theorem dX12_readWay_49 : decode cX12_readWay 49 = .ok (.ifCond .le 7, 3) := by decide +kernel
theorem dX12_readWay_52 : decode cX12_readWay 52 = .ok (.iconst 0, 1) := by decide +kernel
theorem dX12_readWay_53 : decode cX12_readWay 53 = .ok (.goto 4, 3) := by decide +kernel
theorem dX12_readWay_56 : decode cX12_readWay 56 = .ok (.iconst 1, 1) := by decide +kernel
theorem dX12_readWay_57 : decode cX12_readWay 57 = .ok (.iadd, 1) := by decide +kernel
theorem dX12_readWay_58 : decode cX12_readWay 58 = .ok (.putfield 188, 3) := by decide +kernel
theorem dX12_readWay_61 : decode cX12_readWay 61 = .ok (.aload_n 0, 1) := by decide +kernel
theorem dX12_readWay_62 : decode cX12_readWay 62 = .ok (.getfield 191, 3) := by decide +kernel
theorem dX12_readWay_65 : decode cX12_readWay 65 = .ok (.ifCond .le 7, 3) := by decide +kernel
theorem dX12_readWay_68 : decode cX12_readWay 68 = .ok (.iconst (-1), 1) := by decide +kernel
theorem dX12_readWay_69 : decode cX12_readWay 69 = .ok (.goto 11, 3) := by decide +kernel
theorem dX12_readWay_72 : decode cX12_readWay 72 = .ok (.aload_n 0, 1) := by decide +kernel
theorem dX12_readWay_73 : decode cX12_readWay 73 = .ok (.iconst 0, 1) := by decide +kernel
theorem dX12_readWay_74 : decode cX12_readWay 74 = .ok (.bipush 7, 2) := by decide +kernel
theorem dX12_readWay_76 : decode cX12_readWay 76 = .ok (.iload_n 2, 1) := by decide +kernel
theorem dX12_readWay_77 : decode cX12_readWay 77 = .ok (.invokevirtual 270, 3) := by decide +kernel
theorem dX12_readWay_80 : decode cX12_readWay 80 = .ok (.istore_n 3, 1) := by decide +kernel
theorem dX12_readWay_81 : decode cX12_readWay 81 = .ok (.aload_n 0, 1) := by decide +kernel
theorem dX12_readWay_82 : decode cX12_readWay 82 = .ok (.getfield 191, 3) := by decide +kernel
theorem dX12_readWay_85 : decode cX12_readWay 85 = .ok (.ifCond .ne 28, 3) := by decide +kernel
theorem dX12_readWay_88 : decode cX12_readWay 88 = .ok (.aload_n 0, 1) := by decide +kernel
theorem dX12_readWay_89 : decode cX12_readWay 89 = .ok (.getfield 97, 3) := by decide +kernel
theorem dX12_readWay_92 : decode cX12_readWay 92 = .ok (.sipush 182, 3) := by decide +kernel
theorem dX12_readWay_95 : decode cX12_readWay 95 = .ok (.iconst 2, 1) := by decide +kernel
theorem dX12_readWay_96 : decode cX12_readWay 96 = .ok (.bipush 7, 2) := by decide +kernel
theorem dX12_readWay_98 : decode cX12_readWay 98 = .ok (.iload_n 2, 1) := by decide +kernel
theorem dX12_readWay_99 : decode cX12_readWay 99 = .ok (.imul, 1) := by decide +kernel
theorem dX12_readWay_100 : decode cX12_readWay 100 = .ok (.iload_n 3, 1) := by decide +kernel
theorem dX12_readWay_101 : decode cX12_readWay 101 = .ok (.iadd, 1) := by decide +kernel
theorem dX12_readWay_102 : decode cX12_readWay 102 = .ok (.imul, 1) := by decide +kernel
theorem dX12_readWay_103 : decode cX12_readWay 103 = .ok (.iadd, 1) := by decide +kernel
theorem dX12_readWay_104 : decode cX12_readWay 104 = .ok (.iaload, 1) := by decide +kernel
theorem dX12_readWay_105 : decode cX12_readWay 105 = .ok (.ifCond .le 8, 3) := by decide +kernel
theorem dX12_readWay_108 : decode cX12_readWay 108 = .ok (.aload_n 0, 1) := by decide +kernel
theorem dX12_readWay_109 : decode cX12_readWay 109 = .ok (.iconst 3, 1) := by decide +kernel
theorem dX12_readWay_110 : decode cX12_readWay 110 = .ok (.invokevirtual 197, 3) := by decide +kernel
theorem dX12_readWay_113 : decode cX12_readWay 113 = .ok (.aload_n 0, 1) := by decide +kernel
theorem dX12_readWay_114 : decode cX12_readWay 114 = .ok (.dup, 1) := by decide +kernel
theorem dX12_readWay_115 : decode cX12_readWay 115 = .ok (.getfield 188, 3) := by decide +kernel
theorem dX12_readWay_118 : decode cX12_readWay 118 = .ok (.aload_n 0, 1) := by decide +kernel
theorem dX12_readWay_119 : decode cX12_readWay 119 = .ok (.getfield 191, 3) := by decide +kernel
theorem dX12_readWay_122 : decode cX12_readWay 122 = .ok (.ifCond .le 7, 3) := by decide +kernel
theorem dX12_readWay_125 : decode cX12_readWay 125 = .ok (.iconst 0, 1) := by decide +kernel
theorem dX12_readWay_126 : decode cX12_readWay 126 = .ok (.goto 4, 3) := by decide +kernel
theorem dX12_readWay_129 : decode cX12_readWay 129 = .ok (.iconst 1, 1) := by decide +kernel
theorem dX12_readWay_130 : decode cX12_readWay 130 = .ok (.iadd, 1) := by decide +kernel
theorem dX12_readWay_131 : decode cX12_readWay 131 = .ok (.putfield 188, 3) := by decide +kernel
theorem dX12_readWay_134 : decode cX12_readWay 134 = .ok (.aload_n 0, 1) := by decide +kernel
theorem dX12_readWay_135 : decode cX12_readWay 135 = .ok (.iconst 4, 1) := by decide +kernel
theorem dX12_readWay_136 : decode cX12_readWay 136 = .ok (.iconst 1, 1) := by decide +kernel
theorem dX12_readWay_137 : decode cX12_readWay 137 = .ok (.bipush 99, 2) := by decide +kernel
theorem dX12_readWay_139 : decode cX12_readWay 139 = .ok (.invokevirtual 266, 3) := by decide +kernel
theorem dX12_readWay_142 : decode cX12_readWay 142 = .ok (.istore 4, 2) := by decide +kernel
theorem dX12_readWay_144 : decode cX12_readWay 144 = .ok (.aload_n 0, 1) := by decide +kernel
theorem dX12_readWay_145 : decode cX12_readWay 145 = .ok (.iconst 5, 1) := by decide +kernel
theorem dX12_readWay_146 : decode cX12_readWay 146 = .ok (.iconst 0, 1) := by decide +kernel
theorem dX12_readWay_147 : decode cX12_readWay 147 = .ok (.bipush 9, 2) := by decide +kernel
theorem dX12_readWay_149 : decode cX12_readWay 149 = .ok (.invokevirtual 266, 3) := by decide +kernel
theorem dX12_readWay_152 : decode cX12_readWay 152 = .ok (.istore 5, 2) := by decide +kernel
theorem dX12_readWay_154 : decode cX12_readWay 154 = .ok (.aload_n 0, 1) := by decide +kernel
theorem dX12_readWay_155 : decode cX12_readWay 155 = .ok (.getfield 191, 3) := by decide +kernel
theorem dX12_readWay_158 : decode cX12_readWay 158 = .ok (.ifCond .ne 78, 3) := by decide +kernel
theorem dX12_readWay_161 : decode cX12_readWay 161 = .ok (.iconst 0, 1) := by decide +kernel
theorem dX12_readWay_162 : decode cX12_readWay 162 = .ok (.istore 6, 2) := by decide +kernel
theorem dX12_readWay_164 : decode cX12_readWay 164 = .ok (.iload 6, 2) := by decide +kernel
theorem dX12_readWay_166 : decode cX12_readWay 166 = .ok (.iconst 2, 1) := by decide +kernel
theorem dX12_readWay_167 : decode cX12_readWay 167 = .ok (.if_icmp .ge 57, 3) := by decide +kernel
theorem dX12_readWay_170 : decode cX12_readWay 170 = .ok (.sipush 182, 3) := by decide +kernel
theorem dX12_readWay_173 : decode cX12_readWay 173 = .ok (.iconst 2, 1) := by decide +kernel
theorem dX12_readWay_174 : decode cX12_readWay 174 = .ok (.iload 6, 2) := by decide +kernel
theorem dX12_readWay_176 : decode cX12_readWay 176 = .ok (.ifCond .ne 12, 3) := by decide +kernel
theorem dX12_readWay_179 : decode cX12_readWay 179 = .ok (.bipush 7, 2) := by decide +kernel
theorem dX12_readWay_181 : decode cX12_readWay 181 = .ok (.iload_n 2, 1) := by decide +kernel
theorem dX12_readWay_182 : decode cX12_readWay 182 = .ok (.imul, 1) := by decide +kernel
theorem dX12_readWay_183 : decode cX12_readWay 183 = .ok (.iload_n 3, 1) := by decide +kernel
theorem dX12_readWay_184 : decode cX12_readWay 184 = .ok (.iadd, 1) := by decide +kernel
theorem dX12_readWay_185 : decode cX12_readWay 185 = .ok (.goto 9, 3) := by decide +kernel
theorem dX12_readWay_188 : decode cX12_readWay 188 = .ok (.bipush 7, 2) := by decide +kernel
theorem dX12_readWay_190 : decode cX12_readWay 190 = .ok (.iload_n 3, 1) := by decide +kernel
theorem dX12_readWay_191 : decode cX12_readWay 191 = .ok (.imul, 1) := by decide +kernel
theorem dX12_readWay_192 : decode cX12_readWay 192 = .ok (.iload_n 2, 1) := by decide +kernel
theorem dX12_readWay_193 : decode cX12_readWay 193 = .ok (.iadd, 1) := by decide +kernel
theorem dX12_readWay_194 : decode cX12_readWay 194 = .ok (.imul, 1) := by decide +kernel
theorem dX12_readWay_195 : decode cX12_readWay 195 = .ok (.iadd, 1) := by decide +kernel
theorem dX12_readWay_196 : decode cX12_readWay 196 = .ok (.istore 7, 2) := by decide +kernel
theorem dX12_readWay_198 : decode cX12_readWay 198 = .ok (.aload_n 0, 1) := by decide +kernel
theorem dX12_readWay_199 : decode cX12_readWay 199 = .ok (.getfield 97, 3) := by decide +kernel
theorem dX12_readWay_202 : decode cX12_readWay 202 = .ok (.iload 7, 2) := by decide +kernel
theorem dX12_readWay_204 : decode cX12_readWay 204 = .ok (.iload 4, 2) := by decide +kernel
theorem dX12_readWay_206 : decode cX12_readWay 206 = .ok (.iastore, 1) := by decide +kernel
theorem dX12_readWay_207 : decode cX12_readWay 207 = .ok (.aload_n 0, 1) := by decide +kernel
theorem dX12_readWay_208 : decode cX12_readWay 208 = .ok (.getfield 97, 3) := by decide +kernel
theorem dX12_readWay_211 : decode cX12_readWay 211 = .ok (.iload 7, 2) := by decide +kernel
theorem dX12_readWay_213 : decode cX12_readWay 213 = .ok (.iconst 1, 1) := by decide +kernel
theorem dX12_readWay_214 : decode cX12_readWay 214 = .ok (.iadd, 1) := by decide +kernel
theorem dX12_readWay_215 : decode cX12_readWay 215 = .ok (.iload 5, 2) := by decide +kernel
theorem dX12_readWay_217 : decode cX12_readWay 217 = .ok (.iastore, 1) := by decide +kernel
theorem dX12_readWay_218 : decode cX12_readWay 218 = .ok (.iinc 6 1, 3) := by decide +kernel
theorem dX12_readWay_221 : decode cX12_readWay 221 = .ok (.goto (-57), 3) := by decide +kernel
theorem dX12_readWay_224 : decode cX12_readWay 224 = .ok (.aload_n 0, 1) := by decide +kernel
theorem dX12_readWay_225 : decode cX12_readWay 225 = .ok (.getfield 97, 3) := by decide +kernel
theorem dX12_readWay_228 : decode cX12_readWay 228 = .ok (.sipush 161, 3) := by decide +kernel
theorem dX12_readWay_231 : decode cX12_readWay 231 = .ok (.dup2, 1) := by decide +kernel
theorem dX12_readWay_232 : decode cX12_readWay 232 = .ok (.iaload, 1) := by decide +kernel
theorem dX12_readWay_233 : decode cX12_readWay 233 = .ok (.iconst 1, 1) := by decide +kernel
theorem dX12_readWay_234 : decode cX12_readWay 234 = .ok (.iadd, 1) := by decide +kernel
theorem dX12_readWay_235 : decode cX12_readWay 235 = .ok (.iastore, 1) := by decide +kernel
theorem dX12_readWay_236 : decode cX12_readWay 236 = .ok (.return_, 1) := by decide +kernel
theorem dX12_readCarrier_0 : decode cX12_readCarrier 0 = .ok (.aload_n 0, 1) := by decide +kernel
theorem dX12_readCarrier_1 : decode cX12_readCarrier 1 = .ok (.getfield 97, 3) := by decide +kernel
theorem dX12_readCarrier_4 : decode cX12_readCarrier 4 = .ok (.sipush 162, 3) := by decide +kernel
theorem dX12_readCarrier_7 : decode cX12_readCarrier 7 = .ok (.iaload, 1) := by decide +kernel
theorem dX12_readCarrier_8 : decode cX12_readCarrier 8 = .ok (.istore_n 1, 1) := by decide +kernel
theorem dX12_readCarrier_9 : decode cX12_readCarrier 9 = .ok (.iload_n 1, 1) := by decide +kernel
theorem dX12_readCarrier_10 : decode cX12_readCarrier 10 = .ok (.bipush 6, 2) := by decide +kernel
theorem dX12_readCarrier_12 : decode cX12_readCarrier 12 = .ok (.if_icmp .ne 9, 3) := by decide +kernel
theorem dX12_readCarrier_15 : decode cX12_readCarrier 15 = .ok (.aload_n 0, 1) := by decide +kernel
theorem dX12_readCarrier_16 : decode cX12_readCarrier 16 = .ok (.iconst 5, 1) := by decide +kernel
theorem dX12_readCarrier_17 : decode cX12_readCarrier 17 = .ok (.invokevirtual 197, 3) := by decide +kernel
theorem dX12_readCarrier_20 : decode cX12_readCarrier 20 = .ok (.return_, 1) := by decide +kernel
theorem dX12_readCarrier_21 : decode cX12_readCarrier 21 = .ok (.aload_n 0, 1) := by decide +kernel
theorem dX12_readCarrier_22 : decode cX12_readCarrier 22 = .ok (.bipush 7, 2) := by decide +kernel
theorem dX12_readCarrier_24 : decode cX12_readCarrier 24 = .ok (.iload_n 1, 1) := by decide +kernel
theorem dX12_readCarrier_25 : decode cX12_readCarrier 25 = .ok (.iadd, 1) := by decide +kernel
theorem dX12_readCarrier_26 : decode cX12_readCarrier 26 = .ok (.invokevirtual 263, 3) := by decide +kernel
theorem dX12_readCarrier_29 : decode cX12_readCarrier 29 = .ok (.iconst (-1), 1) := by decide +kernel
theorem dX12_readCarrier_30 : decode cX12_readCarrier 30 = .ok (.istore_n 2, 1) := by decide +kernel
theorem dX12_readCarrier_31 : decode cX12_readCarrier 31 = .ok (.iconst 0, 1) := by decide +kernel
theorem dX12_readCarrier_32 : decode cX12_readCarrier 32 = .ok (.istore_n 3, 1) := by decide +kernel
theorem dX12_readCarrier_33 : decode cX12_readCarrier 33 = .ok (.iload_n 3, 1) := by decide +kernel
theorem dX12_readCarrier_34 : decode cX12_readCarrier 34 = .ok (.bipush 6, 2) := by decide +kernel
theorem dX12_readCarrier_36 : decode cX12_readCarrier 36 = .ok (.if_icmp .ge 26, 3) := by decide +kernel
theorem dX12_readCarrier_39 : decode cX12_readCarrier 39 = .ok (.aload_n 0, 1) := by decide +kernel
theorem dX12_readCarrier_40 : decode cX12_readCarrier 40 = .ok (.bipush 16, 2) := by decide +kernel
theorem dX12_readCarrier_42 : decode cX12_readCarrier 42 = .ok (.iload_n 3, 1) := by decide +kernel
theorem dX12_readCarrier_43 : decode cX12_readCarrier 43 = .ok (.iadd, 1) := by decide +kernel
theorem dX12_readCarrier_44 : decode cX12_readCarrier 44 = .ok (.invokevirtual 200, 3) := by decide +kernel
theorem dX12_readCarrier_47 : decode cX12_readCarrier 47 = .ok (.ifCond .eq 7, 3) := by decide +kernel
theorem dX12_readCarrier_50 : decode cX12_readCarrier 50 = .ok (.iload_n 3, 1) := by decide +kernel
theorem dX12_readCarrier_51 : decode cX12_readCarrier 51 = .ok (.goto 4, 3) := by decide +kernel
theorem dX12_readCarrier_54 : decode cX12_readCarrier 54 = .ok (.iload_n 2, 1) := by decide +kernel
theorem dX12_readCarrier_55 : decode cX12_readCarrier 55 = .ok (.istore_n 2, 1) := by decide +kernel
theorem dX12_readCarrier_56 : decode cX12_readCarrier 56 = .ok (.iinc 3 1, 3) := by decide +kernel
theorem dX12_readCarrier_59 : decode cX12_readCarrier 59 = .ok (.goto (-26), 3) := by decide +kernel
theorem dX12_readCarrier_62 : decode cX12_readCarrier 62 = .ok (.iload_n 2, 1) := by decide +kernel
theorem dX12_readCarrier_63 : decode cX12_readCarrier 63 = .ok (.ifCond .ge 8, 3) := by decide +kernel
theorem dX12_readCarrier_66 : decode cX12_readCarrier 66 = .ok (.aload_n 0, 1) := by decide +kernel
theorem dX12_readCarrier_67 : decode cX12_readCarrier 67 = .ok (.iconst 1, 1) := by decide +kernel
theorem dX12_readCarrier_68 : decode cX12_readCarrier 68 = .ok (.invokevirtual 197, 3) := by decide +kernel
theorem dX12_readCarrier_71 : decode cX12_readCarrier 71 = .ok (.aload_n 0, 1) := by decide +kernel
theorem dX12_readCarrier_72 : decode cX12_readCarrier 72 = .ok (.dup, 1) := by decide +kernel
theorem dX12_readCarrier_73 : decode cX12_readCarrier 73 = .ok (.getfield 188, 3) := by decide +kernel
theorem dX12_readCarrier_76 : decode cX12_readCarrier 76 = .ok (.aload_n 0, 1) := by decide +kernel
theorem dX12_readCarrier_77 : decode cX12_readCarrier 77 = .ok (.getfield 191, 3) := by decide +kernel
theorem dX12_readCarrier_80 : decode cX12_readCarrier 80 = .ok (.ifCond .le 7, 3) := by decide +kernel
theorem dX12_readCarrier_83 : decode cX12_readCarrier 83 = .ok (.iconst 0, 1) := by decide +kernel
theorem dX12_readCarrier_84 : decode cX12_readCarrier 84 = .ok (.goto 4, 3) := by decide +kernel
theorem dX12_readCarrier_87 : decode cX12_readCarrier 87 = .ok (.iconst 1, 1) := by decide +kernel
theorem dX12_readCarrier_88 : decode cX12_readCarrier 88 = .ok (.iadd, 1) := by decide +kernel
theorem dX12_readCarrier_89 : decode cX12_readCarrier 89 = .ok (.putfield 188, 3) := by decide +kernel
theorem dX12_readCarrier_92 : decode cX12_readCarrier 92 = .ok (.sipush 280, 3) := by decide +kernel
theorem dX12_readCarrier_95 : decode cX12_readCarrier 95 = .ok (.iconst 4, 1) := by decide +kernel
theorem dX12_readCarrier_96 : decode cX12_readCarrier 96 = .ok (.iload_n 1, 1) := by decide +kernel
theorem dX12_readCarrier_97 : decode cX12_readCarrier 97 = .ok (.imul, 1) := by decide +kernel
theorem dX12_readCarrier_98 : decode cX12_readCarrier 98 = .ok (.iadd, 1) := by decide +kernel
theorem dX12_readCarrier_99 : decode cX12_readCarrier 99 = .ok (.istore_n 3, 1) := by decide +kernel
theorem dX12_readCarrier_100 : decode cX12_readCarrier 100 = .ok (.aload_n 0, 1) := by decide +kernel
theorem dX12_readCarrier_101 : decode cX12_readCarrier 101 = .ok (.getfield 97, 3) := by decide +kernel
theorem dX12_readCarrier_104 : decode cX12_readCarrier 104 = .ok (.iload_n 3, 1) := by decide +kernel
theorem dX12_readCarrier_105 : decode cX12_readCarrier 105 = .ok (.iload_n 2, 1) := by decide +kernel
theorem dX12_readCarrier_106 : decode cX12_readCarrier 106 = .ok (.iastore, 1) := by decide +kernel
theorem dX12_readCarrier_107 : decode cX12_readCarrier 107 = .ok (.aload_n 0, 1) := by decide +kernel
theorem dX12_readCarrier_108 : decode cX12_readCarrier 108 = .ok (.getfield 97, 3) := by decide +kernel
theorem dX12_readCarrier_111 : decode cX12_readCarrier 111 = .ok (.iload_n 3, 1) := by decide +kernel
theorem dX12_readCarrier_112 : decode cX12_readCarrier 112 = .ok (.iconst 1, 1) := by decide +kernel
theorem dX12_readCarrier_113 : decode cX12_readCarrier 113 = .ok (.iadd, 1) := by decide +kernel
theorem dX12_readCarrier_114 : decode cX12_readCarrier 114 = .ok (.aload_n 0, 1) := by decide +kernel
theorem dX12_readCarrier_115 : decode cX12_readCarrier 115 = .ok (.bipush 7, 2) := by decide +kernel
theorem dX12_readCarrier_117 : decode cX12_readCarrier 117 = .ok (.iconst 1, 1) := by decide +kernel
theorem dX12_readCarrier_118 : decode cX12_readCarrier 118 = .ok (.bipush 60, 2) := by decide +kernel
theorem dX12_readCarrier_120 : decode cX12_readCarrier 120 = .ok (.invokevirtual 266, 3) := by decide +kernel
theorem dX12_readCarrier_123 : decode cX12_readCarrier 123 = .ok (.iastore, 1) := by decide +kernel
theorem dX12_readCarrier_124 : decode cX12_readCarrier 124 = .ok (.aload_n 0, 1) := by decide +kernel
theorem dX12_readCarrier_125 : decode cX12_readCarrier 125 = .ok (.getfield 97, 3) := by decide +kernel
theorem dX12_readCarrier_128 : decode cX12_readCarrier 128 = .ok (.iload_n 3, 1) := by decide +kernel
theorem dX12_readCarrier_129 : decode cX12_readCarrier 129 = .ok (.iconst 2, 1) := by decide +kernel
theorem dX12_readCarrier_130 : decode cX12_readCarrier 130 = .ok (.iadd, 1) := by decide +kernel
theorem dX12_readCarrier_131 : decode cX12_readCarrier 131 = .ok (.aload_n 0, 1) := by decide +kernel
theorem dX12_readCarrier_132 : decode cX12_readCarrier 132 = .ok (.bipush 8, 2) := by decide +kernel
theorem dX12_readCarrier_134 : decode cX12_readCarrier 134 = .ok (.iconst 0, 1) := by decide +kernel
theorem dX12_readCarrier_135 : decode cX12_readCarrier 135 = .ok (.bipush 20, 2) := by decide +kernel
theorem dX12_readCarrier_137 : decode cX12_readCarrier 137 = .ok (.invokevirtual 266, 3) := by decide +kernel
theorem dX12_readCarrier_140 : decode cX12_readCarrier 140 = .ok (.iastore, 1) := by decide +kernel
theorem dX12_readCarrier_141 : decode cX12_readCarrier 141 = .ok (.aload_n 0, 1) := by decide +kernel
theorem dX12_readCarrier_142 : decode cX12_readCarrier 142 = .ok (.getfield 97, 3) := by decide +kernel
theorem dX12_readCarrier_145 : decode cX12_readCarrier 145 = .ok (.iload_n 3, 1) := by decide +kernel
theorem dX12_readCarrier_146 : decode cX12_readCarrier 146 = .ok (.iconst 3, 1) := by decide +kernel
theorem dX12_readCarrier_147 : decode cX12_readCarrier 147 = .ok (.iadd, 1) := by decide +kernel
theorem dX12_readCarrier_148 : decode cX12_readCarrier 148 = .ok (.aload_n 0, 1) := by decide +kernel
theorem dX12_readCarrier_149 : decode cX12_readCarrier 149 = .ok (.bipush 9, 2) := by decide +kernel
theorem dX12_readCarrier_151 : decode cX12_readCarrier 151 = .ok (.iconst 0, 1) := by decide +kernel
theorem dX12_readCarrier_152 : decode cX12_readCarrier 152 = .ok (.bipush 9, 2) := by decide +kernel
theorem dX12_readCarrier_154 : decode cX12_readCarrier 154 = .ok (.invokevirtual 266, 3) := by decide +kernel
theorem dX12_readCarrier_157 : decode cX12_readCarrier 157 = .ok (.iastore, 1) := by decide +kernel
theorem dX12_readCarrier_158 : decode cX12_readCarrier 158 = .ok (.aload_n 0, 1) := by decide +kernel
theorem dX12_readCarrier_159 : decode cX12_readCarrier 159 = .ok (.getfield 97, 3) := by decide +kernel
theorem dX12_readCarrier_162 : decode cX12_readCarrier 162 = .ok (.sipush 162, 3) := by decide +kernel
theorem dX12_readCarrier_165 : decode cX12_readCarrier 165 = .ok (.dup2, 1) := by decide +kernel
theorem dX12_readCarrier_166 : decode cX12_readCarrier 166 = .ok (.iaload, 1) := by decide +kernel
theorem dX12_readCarrier_167 : decode cX12_readCarrier 167 = .ok (.iconst 1, 1) := by decide +kernel
theorem dX12_readCarrier_168 : decode cX12_readCarrier 168 = .ok (.iadd, 1) := by decide +kernel
theorem dX12_readCarrier_169 : decode cX12_readCarrier 169 = .ok (.iastore, 1) := by decide +kernel
theorem dX12_readCarrier_170 : decode cX12_readCarrier 170 = .ok (.return_, 1) := by decide +kernel
theorem dX12_readOwe_0 : decode cX12_readOwe 0 = .ok (.aload_n 0, 1) := by decide +kernel
theorem dX12_readOwe_1 : decode cX12_readOwe 1 = .ok (.dup, 1) := by decide +kernel
theorem dX12_readOwe_2 : decode cX12_readOwe 2 = .ok (.getfield 188, 3) := by decide +kernel
theorem dX12_readOwe_5 : decode cX12_readOwe 5 = .ok (.iconst 1, 1) := by decide +kernel
theorem dX12_readOwe_6 : decode cX12_readOwe 6 = .ok (.iadd, 1) := by decide +kernel
theorem dX12_readOwe_7 : decode cX12_readOwe 7 = .ok (.putfield 188, 3) := by decide +kernel
theorem dX12_readOwe_10 : decode cX12_readOwe 10 = .ok (.aload_n 0, 1) := by decide +kernel
theorem dX12_readOwe_11 : decode cX12_readOwe 11 = .ok (.bipush 7, 2) := by decide +kernel
theorem dX12_readOwe_13 : decode cX12_readOwe 13 = .ok (.bipush 6, 2) := by decide +kernel
theorem dX12_readOwe_15 : decode cX12_readOwe 15 = .ok (.iconst (-1), 1) := by decide +kernel
theorem dX12_readOwe_16 : decode cX12_readOwe 16 = .ok (.invokevirtual 270, 3) := by decide +kernel
theorem dX12_readOwe_19 : decode cX12_readOwe 19 = .ok (.istore_n 1, 1) := by decide +kernel
theorem dX12_readOwe_20 : decode cX12_readOwe 20 = .ok (.aload_n 0, 1) := by decide +kernel
theorem dX12_readOwe_21 : decode cX12_readOwe 21 = .ok (.dup, 1) := by decide +kernel
theorem dX12_readOwe_22 : decode cX12_readOwe 22 = .ok (.getfield 188, 3) := by decide +kernel
theorem dX12_readOwe_25 : decode cX12_readOwe 25 = .ok (.aload_n 0, 1) := by decide +kernel
theorem dX12_readOwe_26 : decode cX12_readOwe 26 = .ok (.getfield 191, 3) := by decide +kernel
theorem dX12_readOwe_29 : decode cX12_readOwe 29 = .ok (.ifCond .le 7, 3) := by decide +kernel
theorem dX12_readOwe_32 : decode cX12_readOwe 32 = .ok (.iconst 0, 1) := by decide +kernel
theorem dX12_readOwe_33 : decode cX12_readOwe 33 = .ok (.goto 4, 3) := by decide +kernel
theorem dX12_readOwe_36 : decode cX12_readOwe 36 = .ok (.iconst 1, 1) := by decide +kernel
theorem dX12_readOwe_37 : decode cX12_readOwe 37 = .ok (.iadd, 1) := by decide +kernel
theorem dX12_readOwe_38 : decode cX12_readOwe 38 = .ok (.putfield 188, 3) := by decide +kernel
theorem dX12_readOwe_41 : decode cX12_readOwe 41 = .ok (.aload_n 0, 1) := by decide +kernel
theorem dX12_readOwe_42 : decode cX12_readOwe 42 = .ok (.getfield 191, 3) := by decide +kernel
theorem dX12_readOwe_45 : decode cX12_readOwe 45 = .ok (.ifCond .le 7, 3) := by decide +kernel
theorem dX12_readOwe_48 : decode cX12_readOwe 48 = .ok (.iconst (-1), 1) := by decide +kernel
theorem dX12_readOwe_49 : decode cX12_readOwe 49 = .ok (.goto 12, 3) := by decide +kernel
theorem dX12_readOwe_52 : decode cX12_readOwe 52 = .ok (.aload_n 0, 1) := by decide +kernel
theorem dX12_readOwe_53 : decode cX12_readOwe 53 = .ok (.bipush 7, 2) := by decide +kernel
theorem dX12_readOwe_55 : decode cX12_readOwe 55 = .ok (.bipush 6, 2) := by decide +kernel
theorem dX12_readOwe_57 : decode cX12_readOwe 57 = .ok (.iload_n 1, 1) := by decide +kernel
theorem dX12_readOwe_58 : decode cX12_readOwe 58 = .ok (.invokevirtual 270, 3) := by decide +kernel
theorem dX12_readOwe_61 : decode cX12_readOwe 61 = .ok (.istore_n 2, 1) := by decide +kernel
theorem dX12_readOwe_62 : decode cX12_readOwe 62 = .ok (.aload_n 0, 1) := by decide +kernel
theorem dX12_readOwe_63 : decode cX12_readOwe 63 = .ok (.getfield 191, 3) := by decide +kernel
theorem dX12_readOwe_66 : decode cX12_readOwe 66 = .ok (.ifCond .ne 22, 3) := by decide +kernel
theorem dX12_readOwe_69 : decode cX12_readOwe 69 = .ok (.aload_n 0, 1) := by decide +kernel
theorem dX12_readOwe_70 : decode cX12_readOwe 70 = .ok (.getfield 100, 3) := by decide +kernel
theorem dX12_readOwe_73 : decode cX12_readOwe 73 = .ok (.bipush 6, 2) := by decide +kernel
theorem dX12_readOwe_75 : decode cX12_readOwe 75 = .ok (.iload_n 1, 1) := by decide +kernel
theorem dX12_readOwe_76 : decode cX12_readOwe 76 = .ok (.imul, 1) := by decide +kernel
theorem dX12_readOwe_77 : decode cX12_readOwe 77 = .ok (.iload_n 2, 1) := by decide +kernel
theorem dX12_readOwe_78 : decode cX12_readOwe 78 = .ok (.iadd, 1) := by decide +kernel
theorem dX12_readOwe_79 : decode cX12_readOwe 79 = .ok (.iaload, 1) := by decide +kernel
theorem dX12_readOwe_80 : decode cX12_readOwe 80 = .ok (.ifCond .le 8, 3) := by decide +kernel
theorem dX12_readOwe_83 : decode cX12_readOwe 83 = .ok (.aload_n 0, 1) := by decide +kernel
theorem dX12_readOwe_84 : decode cX12_readOwe 84 = .ok (.iconst 3, 1) := by decide +kernel
theorem dX12_readOwe_85 : decode cX12_readOwe 85 = .ok (.invokevirtual 197, 3) := by decide +kernel
theorem dX12_readOwe_88 : decode cX12_readOwe 88 = .ok (.aload_n 0, 1) := by decide +kernel
theorem dX12_readOwe_89 : decode cX12_readOwe 89 = .ok (.dup, 1) := by decide +kernel
theorem dX12_readOwe_90 : decode cX12_readOwe 90 = .ok (.getfield 188, 3) := by decide +kernel
theorem dX12_readOwe_93 : decode cX12_readOwe 93 = .ok (.aload_n 0, 1) := by decide +kernel
theorem dX12_readOwe_94 : decode cX12_readOwe 94 = .ok (.getfield 191, 3) := by decide +kernel
theorem dX12_readOwe_97 : decode cX12_readOwe 97 = .ok (.ifCond .le 7, 3) := by decide +kernel
theorem dX12_readOwe_100 : decode cX12_readOwe 100 = .ok (.iconst 0, 1) := by decide +kernel
theorem dX12_readOwe_101 : decode cX12_readOwe 101 = .ok (.goto 4, 3) := by decide +kernel
theorem dX12_readOwe_104 : decode cX12_readOwe 104 = .ok (.iconst 1, 1) := by decide +kernel
theorem dX12_readOwe_105 : decode cX12_readOwe 105 = .ok (.iadd, 1) := by decide +kernel
theorem dX12_readOwe_106 : decode cX12_readOwe 106 = .ok (.putfield 188, 3) := by decide +kernel
theorem dX12_readOwe_109 : decode cX12_readOwe 109 = .ok (.aload_n 0, 1) := by decide +kernel
theorem dX12_readOwe_110 : decode cX12_readOwe 110 = .ok (.iconst 1, 1) := by decide +kernel
theorem dX12_readOwe_111 : decode cX12_readOwe 111 = .ok (.bipush 99, 2) := by decide +kernel
theorem dX12_readOwe_113 : decode cX12_readOwe 113 = .ok (.invokevirtual 209, 3) := by decide +kernel
theorem dX12_readOwe_116 : decode cX12_readOwe 116 = .ok (.istore_n 3, 1) := by decide +kernel
theorem dX12_readOwe_117 : decode cX12_readOwe 117 = .ok (.aload_n 0, 1) := by decide +kernel
theorem dX12_readOwe_118 : decode cX12_readOwe 118 = .ok (.getfield 191, 3) := by decide +kernel
theorem dX12_readOwe_121 : decode cX12_readOwe 121 = .ok (.ifCond .ne 15, 3) := by decide +kernel
theorem dX12_readOwe_124 : decode cX12_readOwe 124 = .ok (.aload_n 0, 1) := by decide +kernel
theorem dX12_readOwe_125 : decode cX12_readOwe 125 = .ok (.getfield 100, 3) := by decide +kernel
theorem dX12_readOwe_128 : decode cX12_readOwe 128 = .ok (.bipush 6, 2) := by decide +kernel
theorem dX12_readOwe_130 : decode cX12_readOwe 130 = .ok (.iload_n 1, 1) := by decide +kernel
theorem dX12_readOwe_131 : decode cX12_readOwe 131 = .ok (.imul, 1) := by decide +kernel
theorem dX12_readOwe_132 : decode cX12_readOwe 132 = .ok (.iload_n 2, 1) := by decide +kernel
theorem dX12_readOwe_133 : decode cX12_readOwe 133 = .ok (.iadd, 1) := by decide +kernel
theorem dX12_readOwe_134 : decode cX12_readOwe 134 = .ok (.iload_n 3, 1) := by decide +kernel
theorem dX12_readOwe_135 : decode cX12_readOwe 135 = .ok (.iastore, 1) := by decide +kernel
theorem dX12_readOwe_136 : decode cX12_readOwe 136 = .ok (.return_, 1) := by decide +kernel
theorem dX12_readRule_0 : decode cX12_readRule 0 = .ok (.aload_n 0, 1) := by decide +kernel
theorem dX12_readRule_1 : decode cX12_readRule 1 = .ok (.aload_n 0, 1) := by decide +kernel
theorem dX12_readRule_2 : decode cX12_readRule 2 = .ok (.bipush 12, 2) := by decide +kernel
theorem dX12_readRule_4 : decode cX12_readRule 4 = .ok (.invokevirtual 200, 3) := by decide +kernel
theorem dX12_readRule_7 : decode cX12_readRule 7 = .ok (.putfield 273, 3) := by decide +kernel
theorem dX12_readRule_10 : decode cX12_readRule 10 = .ok (.sipush 166, 3) := by decide +kernel
theorem dX12_readRule_13 : decode cX12_readRule 13 = .ok (.aload_n 0, 1) := by decide +kernel
theorem dX12_readRule_14 : decode cX12_readRule 14 = .ok (.getfield 273, 3) := by decide +kernel
theorem dX12_readRule_17 : decode cX12_readRule 17 = .ok (.ifCond .eq 7, 3) := by decide +kernel
theorem dX12_readRule_20 : decode cX12_readRule 20 = .ok (.iconst 1, 1) := by decide +kernel
theorem dX12_readRule_21 : decode cX12_readRule 21 = .ok (.goto 4, 3) := by decide +kernel
theorem dX12_readRule_24 : decode cX12_readRule 24 = .ok (.iconst 0, 1) := by decide +kernel
theorem dX12_readRule_25 : decode cX12_readRule 25 = .ok (.iadd, 1) := by decide +kernel
theorem dX12_readRule_26 : decode cX12_readRule 26 = .ok (.istore_n 1, 1) := by decide +kernel
theorem dX12_readRule_27 : decode cX12_readRule 27 = .ok (.aload_n 0, 1) := by decide +kernel
theorem dX12_readRule_28 : decode cX12_readRule 28 = .ok (.getfield 97, 3) := by decide +kernel
theorem dX12_readRule_31 : decode cX12_readRule 31 = .ok (.iload_n 1, 1) := by decide +kernel
theorem dX12_readRule_32 : decode cX12_readRule 32 = .ok (.iaload, 1) := by decide +kernel
theorem dX12_readRule_33 : decode cX12_readRule 33 = .ok (.ifCond .lt 9, 3) := by decide +kernel
theorem dX12_readRule_36 : decode cX12_readRule 36 = .ok (.aload_n 0, 1) := by decide +kernel
theorem dX12_readRule_37 : decode cX12_readRule 37 = .ok (.iconst 3, 1) := by decide +kernel
theorem dX12_readRule_38 : decode cX12_readRule 38 = .ok (.invokevirtual 197, 3) := by decide +kernel
theorem dX12_readRule_41 : decode cX12_readRule 41 = .ok (.return_, 1) := by decide +kernel
theorem dX12_readRule_42 : decode cX12_readRule 42 = .ok (.aload_n 0, 1) := by decide +kernel
theorem dX12_readRule_43 : decode cX12_readRule 43 = .ok (.dup, 1) := by decide +kernel
theorem dX12_readRule_44 : decode cX12_readRule 44 = .ok (.getfield 188, 3) := by decide +kernel
theorem dX12_readRule_47 : decode cX12_readRule 47 = .ok (.iconst 1, 1) := by decide +kernel
theorem dX12_readRule_48 : decode cX12_readRule 48 = .ok (.iadd, 1) := by decide +kernel
theorem dX12_readRule_49 : decode cX12_readRule 49 = .ok (.putfield 188, 3) := by decide +kernel
theorem dX12_readRule_52 : decode cX12_readRule 52 = .ok (.aload_n 0, 1) := by decide +kernel
theorem dX12_readRule_53 : decode cX12_readRule 53 = .ok (.getfield 97, 3) := by decide +kernel
theorem dX12_readRule_56 : decode cX12_readRule 56 = .ok (.iload_n 1, 1) := by decide +kernel
theorem dX12_readRule_57 : decode cX12_readRule 57 = .ok (.aload_n 0, 1) := by decide +kernel
theorem dX12_readRule_58 : decode cX12_readRule 58 = .ok (.getfield 219, 3) := by decide +kernel
theorem dX12_readRule_61 : decode cX12_readRule 61 = .ok (.iastore, 1) := by decide +kernel
theorem dX12_readRule_62 : decode cX12_readRule 62 = .ok (.aload_n 0, 1) := by decide +kernel
theorem dX12_readRule_63 : decode cX12_readRule 63 = .ok (.iconst 0, 1) := by decide +kernel
theorem dX12_readRule_64 : decode cX12_readRule 64 = .ok (.invokevirtual 277, 3) := by decide +kernel
theorem dX12_readRule_67 : decode cX12_readRule 67 = .ok (.aload_n 0, 1) := by decide +kernel
theorem dX12_readRule_68 : decode cX12_readRule 68 = .ok (.iconst 0, 1) := by decide +kernel
theorem dX12_readRule_69 : decode cX12_readRule 69 = .ok (.iconst 0, 1) := by decide +kernel
theorem dX12_readRule_70 : decode cX12_readRule 70 = .ok (.invokevirtual 280, 3) := by decide +kernel
theorem dX12_readRule_73 : decode cX12_readRule 73 = .ok (.return_, 1) := by decide +kernel
theorem dX12_emit_0 : decode cX12_emit 0 = .ok (.aload_n 0, 1) := by decide +kernel
theorem dX12_emit_1 : decode cX12_emit 1 = .ok (.getfield 103, 3) := by decide +kernel
theorem dX12_emit_4 : decode cX12_emit 4 = .ok (.sipush 1100, 3) := by decide +kernel
theorem dX12_emit_7 : decode cX12_emit 7 = .ok (.aload_n 0, 1) := by decide +kernel
theorem dX12_emit_8 : decode cX12_emit 8 = .ok (.getfield 219, 3) := by decide +kernel
theorem dX12_emit_11 : decode cX12_emit 11 = .ok (.iadd, 1) := by decide +kernel
theorem dX12_emit_12 : decode cX12_emit 12 = .ok (.iload_n 1, 1) := by decide +kernel
theorem dX12_emit_13 : decode cX12_emit 13 = .ok (.iastore, 1) := by decide +kernel
theorem dX12_emit_14 : decode cX12_emit 14 = .ok (.aload_n 0, 1) := by decide +kernel
theorem dX12_emit_15 : decode cX12_emit 15 = .ok (.getfield 106, 3) := by decide +kernel
theorem dX12_emit_18 : decode cX12_emit 18 = .ok (.sipush 1100, 3) := by decide +kernel
theorem dX12_emit_21 : decode cX12_emit 21 = .ok (.aload_n 0, 1) := by decide +kernel
theorem dX12_emit_22 : decode cX12_emit 22 = .ok (.getfield 219, 3) := by decide +kernel
theorem dX12_emit_25 : decode cX12_emit 25 = .ok (.iadd, 1) := by decide +kernel
theorem dX12_emit_26 : decode cX12_emit 26 = .ok (.iload_n 2, 1) := by decide +kernel
theorem dX12_emit_27 : decode cX12_emit 27 = .ok (.iastore, 1) := by decide +kernel
theorem dX12_emit_28 : decode cX12_emit 28 = .ok (.aload_n 0, 1) := by decide +kernel
theorem dX12_emit_29 : decode cX12_emit 29 = .ok (.dup, 1) := by decide +kernel
theorem dX12_emit_30 : decode cX12_emit 30 = .ok (.getfield 219, 3) := by decide +kernel
theorem dX12_emit_33 : decode cX12_emit 33 = .ok (.iconst 1, 1) := by decide +kernel
theorem dX12_emit_34 : decode cX12_emit 34 = .ok (.iadd, 1) := by decide +kernel
theorem dX12_emit_35 : decode cX12_emit 35 = .ok (.putfield 219, 3) := by decide +kernel
theorem dX12_emit_38 : decode cX12_emit 38 = .ok (.return_, 1) := by decide +kernel
theorem dX12_all_0 : decode cX12_all 0 = .ok (.aload_n 0, 1) := by decide +kernel
theorem dX12_all_1 : decode cX12_all 1 = .ok (.iload_n 1, 1) := by decide +kernel
theorem dX12_all_2 : decode cX12_all 2 = .ok (.invokevirtual 284, 3) := by decide +kernel
theorem dX12_all_5 : decode cX12_all 5 = .ok (.aload_n 0, 1) := by decide +kernel
theorem dX12_all_6 : decode cX12_all 6 = .ok (.bipush 23, 2) := by decide +kernel
theorem dX12_all_8 : decode cX12_all 8 = .ok (.invokevirtual 200, 3) := by decide +kernel
theorem dX12_all_11 : decode cX12_all 11 = .ok (.ifCond .ne 12, 3) := by decide +kernel
theorem dX12_all_14 : decode cX12_all 14 = .ok (.aload_n 0, 1) := by decide +kernel
theorem dX12_all_15 : decode cX12_all 15 = .ok (.bipush 24, 2) := by decide +kernel
theorem dX12_all_17 : decode cX12_all 17 = .ok (.invokevirtual 200, 3) := by decide +kernel
theorem dX12_all_20 : decode cX12_all 20 = .ok (.ifCond .eq 44, 3) := by decide +kernel
theorem dX12_all_23 : decode cX12_all 23 = .ok (.aload_n 0, 1) := by decide +kernel
theorem dX12_all_24 : decode cX12_all 24 = .ok (.bipush 23, 2) := by decide +kernel
theorem dX12_all_26 : decode cX12_all 26 = .ok (.invokevirtual 200, 3) := by decide +kernel
theorem dX12_all_29 : decode cX12_all 29 = .ok (.istore_n 2, 1) := by decide +kernel
theorem dX12_all_30 : decode cX12_all 30 = .ok (.aload_n 0, 1) := by decide +kernel
theorem dX12_all_31 : decode cX12_all 31 = .ok (.dup, 1) := by decide +kernel
theorem dX12_all_32 : decode cX12_all 32 = .ok (.getfield 188, 3) := by decide +kernel
theorem dX12_all_35 : decode cX12_all 35 = .ok (.iconst 1, 1) := by decide +kernel
theorem dX12_all_36 : decode cX12_all 36 = .ok (.iadd, 1) := by decide +kernel
theorem dX12_all_37 : decode cX12_all 37 = .ok (.putfield 188, 3) := by decide +kernel
theorem dX12_all_40 : decode cX12_all 40 = .ok (.aload_n 0, 1) := by decide +kernel
theorem dX12_all_41 : decode cX12_all 41 = .ok (.iload_n 1, 1) := by decide +kernel
theorem dX12_all_42 : decode cX12_all 42 = .ok (.invokevirtual 284, 3) := by decide +kernel
theorem dX12_all_45 : decode cX12_all 45 = .ok (.aload_n 0, 1) := by decide +kernel
theorem dX12_all_46 : decode cX12_all 46 = .ok (.iload_n 2, 1) := by decide +kernel
theorem dX12_all_47 : decode cX12_all 47 = .ok (.ifCond .eq 8, 3) := by decide +kernel
theorem dX12_all_50 : decode cX12_all 50 = .ok (.bipush 9, 2) := by decide +kernel
theorem dX12_all_52 : decode cX12_all 52 = .ok (.goto 5, 3) := by decide +kernel
theorem dX12_all_55 : decode cX12_all 55 = .ok (.bipush 10, 2) := by decide +kernel
theorem dX12_all_57 : decode cX12_all 57 = .ok (.iconst 0, 1) := by decide +kernel
theorem dX12_all_58 : decode cX12_all 58 = .ok (.invokevirtual 280, 3) := by decide +kernel
theorem dX12_all_61 : decode cX12_all 61 = .ok (.goto (-56), 3) := by decide +kernel
theorem dX12_all_64 : decode cX12_all 64 = .ok (.return_, 1) := by decide +kernel
theorem dX12_test_0 : decode cX12_test 0 = .ok (.aload_n 0, 1) := by decide +kernel
theorem dX12_test_1 : decode cX12_test 1 = .ok (.iload_n 1, 1) := by decide +kernel
theorem dX12_test_2 : decode cX12_test 2 = .ok (.invokevirtual 287, 3) := by decide +kernel
theorem dX12_test_5 : decode cX12_test 5 = .ok (.aload_n 0, 1) := by decide +kernel
theorem dX12_test_6 : decode cX12_test 6 = .ok (.bipush 60, 2) := by decide +kernel
theorem dX12_test_8 : decode cX12_test 8 = .ok (.invokevirtual 194, 3) := by decide +kernel
theorem dX12_test_11 : decode cX12_test 11 = .ok (.istore_n 2, 1) := by decide +kernel
theorem dX12_test_12 : decode cX12_test 12 = .ok (.aload_n 0, 1) := by decide +kernel
theorem dX12_test_13 : decode cX12_test 13 = .ok (.bipush 60, 2) := by decide +kernel
theorem dX12_test_15 : decode cX12_test 15 = .ok (.invokevirtual 290, 3) := by decide +kernel
theorem dX12_test_18 : decode cX12_test 18 = .ok (.ifCond .ne 12, 3) := by decide +kernel
theorem dX12_test_21 : decode cX12_test 21 = .ok (.aload_n 0, 1) := by decide +kernel
theorem dX12_test_22 : decode cX12_test 22 = .ok (.bipush 61, 2) := by decide +kernel
theorem dX12_test_24 : decode cX12_test 24 = .ok (.invokevirtual 290, 3) := by decide +kernel
theorem dX12_test_27 : decode cX12_test 27 = .ok (.ifCond .eq 24, 3) := by decide +kernel
theorem dX12_test_30 : decode cX12_test 30 = .ok (.aload_n 0, 1) := by decide +kernel
theorem dX12_test_31 : decode cX12_test 31 = .ok (.iload_n 1, 1) := by decide +kernel
theorem dX12_test_32 : decode cX12_test 32 = .ok (.invokevirtual 287, 3) := by decide +kernel
theorem dX12_test_35 : decode cX12_test 35 = .ok (.aload_n 0, 1) := by decide +kernel
theorem dX12_test_36 : decode cX12_test 36 = .ok (.iload_n 2, 1) := by decide +kernel
theorem dX12_test_37 : decode cX12_test 37 = .ok (.ifCond .eq 8, 3) := by decide +kernel
theorem dX12_test_40 : decode cX12_test 40 = .ok (.bipush 7, 2) := by decide +kernel
theorem dX12_test_42 : decode cX12_test 42 = .ok (.goto 5, 3) := by decide +kernel
theorem dX12_test_45 : decode cX12_test 45 = .ok (.bipush 8, 2) := by decide +kernel
theorem dX12_test_47 : decode cX12_test 47 = .ok (.iconst 0, 1) := by decide +kernel
theorem dX12_test_48 : decode cX12_test 48 = .ok (.invokevirtual 280, 3) := by decide +kernel
theorem dX12_test_51 : decode cX12_test 51 = .ok (.return_, 1) := by decide +kernel
theorem dX12_sums_0 : decode cX12_sums 0 = .ok (.aload_n 0, 1) := by decide +kernel
theorem dX12_sums_1 : decode cX12_sums 1 = .ok (.iload_n 1, 1) := by decide +kernel
theorem dX12_sums_2 : decode cX12_sums 2 = .ok (.invokevirtual 293, 3) := by decide +kernel
theorem dX12_sums_5 : decode cX12_sums 5 = .ok (.aload_n 0, 1) := by decide +kernel
theorem dX12_sums_6 : decode cX12_sums 6 = .ok (.bipush 43, 2) := by decide +kernel
theorem dX12_sums_8 : decode cX12_sums 8 = .ok (.invokevirtual 194, 3) := by decide +kernel
theorem dX12_sums_11 : decode cX12_sums 11 = .ok (.ifCond .ne 12, 3) := by decide +kernel
theorem dX12_sums_14 : decode cX12_sums 14 = .ok (.aload_n 0, 1) := by decide +kernel
theorem dX12_sums_15 : decode cX12_sums 15 = .ok (.bipush 45, 2) := by decide +kernel
theorem dX12_sums_17 : decode cX12_sums 17 = .ok (.invokevirtual 194, 3) := by decide +kernel
theorem dX12_sums_20 : decode cX12_sums 20 = .ok (.ifCond .eq 42, 3) := by decide +kernel
theorem dX12_sums_23 : decode cX12_sums 23 = .ok (.aload_n 0, 1) := by decide +kernel
theorem dX12_sums_24 : decode cX12_sums 24 = .ok (.bipush 43, 2) := by decide +kernel
theorem dX12_sums_26 : decode cX12_sums 26 = .ok (.invokevirtual 194, 3) := by decide +kernel
theorem dX12_sums_29 : decode cX12_sums 29 = .ok (.istore_n 2, 1) := by decide +kernel
theorem dX12_sums_30 : decode cX12_sums 30 = .ok (.aload_n 0, 1) := by decide +kernel
theorem dX12_sums_31 : decode cX12_sums 31 = .ok (.dup, 1) := by decide +kernel
theorem dX12_sums_32 : decode cX12_sums 32 = .ok (.getfield 188, 3) := by decide +kernel
theorem dX12_sums_35 : decode cX12_sums 35 = .ok (.iconst 1, 1) := by decide +kernel
theorem dX12_sums_36 : decode cX12_sums 36 = .ok (.iadd, 1) := by decide +kernel
theorem dX12_sums_37 : decode cX12_sums 37 = .ok (.putfield 188, 3) := by decide +kernel
theorem dX12_sums_40 : decode cX12_sums 40 = .ok (.aload_n 0, 1) := by decide +kernel
theorem dX12_sums_41 : decode cX12_sums 41 = .ok (.iload_n 1, 1) := by decide +kernel
theorem dX12_sums_42 : decode cX12_sums 42 = .ok (.invokevirtual 293, 3) := by decide +kernel
theorem dX12_sums_45 : decode cX12_sums 45 = .ok (.aload_n 0, 1) := by decide +kernel
theorem dX12_sums_46 : decode cX12_sums 46 = .ok (.iload_n 2, 1) := by decide +kernel
theorem dX12_sums_47 : decode cX12_sums 47 = .ok (.ifCond .eq 7, 3) := by decide +kernel
theorem dX12_sums_50 : decode cX12_sums 50 = .ok (.iconst 4, 1) := by decide +kernel
theorem dX12_sums_51 : decode cX12_sums 51 = .ok (.goto 4, 3) := by decide +kernel
theorem dX12_sums_54 : decode cX12_sums 54 = .ok (.iconst 5, 1) := by decide +kernel
theorem dX12_sums_55 : decode cX12_sums 55 = .ok (.iconst 0, 1) := by decide +kernel
theorem dX12_sums_56 : decode cX12_sums 56 = .ok (.invokevirtual 280, 3) := by decide +kernel
theorem dX12_sums_59 : decode cX12_sums 59 = .ok (.goto (-54), 3) := by decide +kernel
theorem dX12_sums_62 : decode cX12_sums 62 = .ok (.return_, 1) := by decide +kernel
theorem dX12_products_0 : decode cX12_products 0 = .ok (.aload_n 0, 1) := by decide +kernel
theorem dX12_products_1 : decode cX12_products 1 = .ok (.iload_n 1, 1) := by decide +kernel
theorem dX12_products_2 : decode cX12_products 2 = .ok (.invokevirtual 296, 3) := by decide +kernel
theorem dX12_products_5 : decode cX12_products 5 = .ok (.aload_n 0, 1) := by decide +kernel
theorem dX12_products_6 : decode cX12_products 6 = .ok (.bipush 42, 2) := by decide +kernel
theorem dX12_products_8 : decode cX12_products 8 = .ok (.invokevirtual 290, 3) := by decide +kernel
theorem dX12_products_11 : decode cX12_products 11 = .ok (.ifCond .eq 18, 3) := by decide +kernel
theorem dX12_products_14 : decode cX12_products 14 = .ok (.aload_n 0, 1) := by decide +kernel
theorem dX12_products_15 : decode cX12_products 15 = .ok (.iload_n 1, 1) := by decide +kernel
theorem dX12_products_16 : decode cX12_products 16 = .ok (.invokevirtual 296, 3) := by decide +kernel
theorem dX12_products_19 : decode cX12_products 19 = .ok (.aload_n 0, 1) := by decide +kernel
theorem dX12_products_20 : decode cX12_products 20 = .ok (.bipush 6, 2) := by decide +kernel
theorem dX12_products_22 : decode cX12_products 22 = .ok (.iconst 0, 1) := by decide +kernel
theorem dX12_products_23 : decode cX12_products 23 = .ok (.invokevirtual 280, 3) := by decide +kernel
theorem dX12_products_26 : decode cX12_products 26 = .ok (.goto (-21), 3) := by decide +kernel
theorem dX12_products_29 : decode cX12_products 29 = .ok (.return_, 1) := by decide +kernel
theorem dX12_factHere_0 : decode cX12_factHere 0 = .ok (.iconst (-1), 1) := by decide +kernel
theorem dX12_factHere_1 : decode cX12_factHere 1 = .ok (.istore_n 1, 1) := by decide +kernel
theorem dX12_factHere_2 : decode cX12_factHere 2 = .ok (.iconst 0, 1) := by decide +kernel
theorem dX12_factHere_3 : decode cX12_factHere 3 = .ok (.istore_n 2, 1) := by decide +kernel
theorem dX12_factHere_4 : decode cX12_factHere 4 = .ok (.iload_n 2, 1) := by decide +kernel
theorem dX12_factHere_5 : decode cX12_factHere 5 = .ok (.aload_n 0, 1) := by decide +kernel
theorem dX12_factHere_6 : decode cX12_factHere 6 = .ok (.getfield 273, 3) := by decide +kernel
theorem dX12_factHere_9 : decode cX12_factHere 9 = .ok (.ifCond .eq 7, 3) := by decide +kernel
theorem dX12_factHere_12 : decode cX12_factHere 12 = .ok (.iconst 2, 1) := by decide +kernel
theorem dX12_factHere_13 : decode cX12_factHere 13 = .ok (.goto 4, 3) := by decide +kernel
theorem dX12_factHere_16 : decode cX12_factHere 16 = .ok (.iconst 5, 1) := by decide +kernel
theorem dX12_factHere_17 : decode cX12_factHere 17 = .ok (.if_icmp .ge 44, 3) := by decide +kernel
theorem dX12_factHere_20 : decode cX12_factHere 20 = .ok (.aload_n 0, 1) := by decide +kernel
theorem dX12_factHere_21 : decode cX12_factHere 21 = .ok (.aload_n 0, 1) := by decide +kernel
theorem dX12_factHere_22 : decode cX12_factHere 22 = .ok (.getfield 273, 3) := by decide +kernel
theorem dX12_factHere_25 : decode cX12_factHere 25 = .ok (.ifCond .eq 12, 3) := by decide +kernel
theorem dX12_factHere_28 : decode cX12_factHere 28 = .ok (.aload_n 0, 1) := by decide +kernel
theorem dX12_factHere_29 : decode cX12_factHere 29 = .ok (.getfield 118, 3) := by decide +kernel
theorem dX12_factHere_32 : decode cX12_factHere 32 = .ok (.iload_n 2, 1) := by decide +kernel
theorem dX12_factHere_33 : decode cX12_factHere 33 = .ok (.iaload, 1) := by decide +kernel
theorem dX12_factHere_34 : decode cX12_factHere 34 = .ok (.goto 9, 3) := by decide +kernel
theorem dX12_factHere_37 : decode cX12_factHere 37 = .ok (.aload_n 0, 1) := by decide +kernel
theorem dX12_factHere_38 : decode cX12_factHere 38 = .ok (.getfield 115, 3) := by decide +kernel
theorem dX12_factHere_41 : decode cX12_factHere 41 = .ok (.iload_n 2, 1) := by decide +kernel
theorem dX12_factHere_42 : decode cX12_factHere 42 = .ok (.iaload, 1) := by decide +kernel
theorem dX12_factHere_43 : decode cX12_factHere 43 = .ok (.invokevirtual 200, 3) := by decide +kernel
theorem dX12_factHere_46 : decode cX12_factHere 46 = .ok (.ifCond .eq 7, 3) := by decide +kernel
theorem dX12_factHere_49 : decode cX12_factHere 49 = .ok (.iload_n 2, 1) := by decide +kernel
theorem dX12_factHere_50 : decode cX12_factHere 50 = .ok (.goto 4, 3) := by decide +kernel
theorem dX12_factHere_53 : decode cX12_factHere 53 = .ok (.iload_n 1, 1) := by decide +kernel
theorem dX12_factHere_54 : decode cX12_factHere 54 = .ok (.istore_n 1, 1) := by decide +kernel
theorem dX12_factHere_55 : decode cX12_factHere 55 = .ok (.iinc 2 1, 3) := by decide +kernel
theorem dX12_factHere_58 : decode cX12_factHere 58 = .ok (.goto (-54), 3) := by decide +kernel
theorem dX12_factHere_61 : decode cX12_factHere 61 = .ok (.iload_n 1, 1) := by decide +kernel
theorem dX12_factHere_62 : decode cX12_factHere 62 = .ok (.ireturn, 1) := by decide +kernel
theorem dX12_takePart_0 : decode cX12_takePart 0 = .ok (.aload_n 0, 1) := by decide +kernel
theorem dX12_takePart_1 : decode cX12_takePart 1 = .ok (.getfield 191, 3) := by decide +kernel
theorem dX12_takePart_4 : decode cX12_takePart 4 = .ok (.ifCond .le 4, 3) := by decide +kernel
theorem dX12_takePart_7 : decode cX12_takePart 7 = .ok (.return_, 1) := by decide +kernel
theorem dX12_takePart_8 : decode cX12_takePart 8 = .ok (.aload_n 0, 1) := by decide +kernel
theorem dX12_takePart_9 : decode cX12_takePart 9 = .ok (.getfield 24, 3) := by decide +kernel
theorem dX12_takePart_12 : decode cX12_takePart 12 = .ok (.aload_n 0, 1) := by decide +kernel
theorem dX12_takePart_13 : decode cX12_takePart 13 = .ok (.getfield 188, 3) := by decide +kernel
theorem dX12_takePart_16 : decode cX12_takePart 16 = .ok (.iaload, 1) := by decide +kernel
theorem dX12_takePart_17 : decode cX12_takePart 17 = .ok (.iconst 2, 1) := by decide +kernel
theorem dX12_takePart_18 : decode cX12_takePart 18 = .ok (.if_icmp .ne 7, 3) := by decide +kernel
theorem dX12_takePart_21 : decode cX12_takePart 21 = .ok (.iconst 1, 1) := by decide +kernel
theorem dX12_takePart_22 : decode cX12_takePart 22 = .ok (.goto 4, 3) := by decide +kernel
theorem dX12_takePart_25 : decode cX12_takePart 25 = .ok (.iconst 0, 1) := by decide +kernel
theorem dX12_takePart_26 : decode cX12_takePart 26 = .ok (.istore_n 2, 1) := by decide +kernel
theorem dX12_takePart_27 : decode cX12_takePart 27 = .ok (.aload_n 0, 1) := by decide +kernel
theorem dX12_takePart_28 : decode cX12_takePart 28 = .ok (.invokevirtual 299, 3) := by decide +kernel
theorem dX12_takePart_31 : decode cX12_takePart 31 = .ok (.istore_n 3, 1) := by decide +kernel
theorem dX12_takePart_32 : decode cX12_takePart 32 = .ok (.iload_n 3, 1) := by decide +kernel
theorem dX12_takePart_33 : decode cX12_takePart 33 = .ok (.ifCond .ge 33, 3) := by decide +kernel
theorem dX12_takePart_36 : decode cX12_takePart 36 = .ok (.iload_n 2, 1) := by decide +kernel
theorem dX12_takePart_37 : decode cX12_takePart 37 = .ok (.ifCond .ne 29, 3) := by decide +kernel
theorem dX12_takePart_40 : decode cX12_takePart 40 = .ok (.aload_n 0, 1) := by decide +kernel
theorem dX12_takePart_41 : decode cX12_takePart 41 = .ok (.bipush 40, 2) := by decide +kernel
theorem dX12_takePart_43 : decode cX12_takePart 43 = .ok (.invokevirtual 194, 3) := by decide +kernel
theorem dX12_takePart_46 : decode cX12_takePart 46 = .ok (.ifCond .ne 20, 3) := by decide +kernel
theorem dX12_takePart_49 : decode cX12_takePart 49 = .ok (.aload_n 0, 1) := by decide +kernel
theorem dX12_takePart_50 : decode cX12_takePart 50 = .ok (.bipush 22, 2) := by decide +kernel
theorem dX12_takePart_52 : decode cX12_takePart 52 = .ok (.invokevirtual 200, 3) := by decide +kernel
theorem dX12_takePart_55 : decode cX12_takePart 55 = .ok (.ifCond .ne 11, 3) := by decide +kernel
theorem dX12_takePart_58 : decode cX12_takePart 58 = .ok (.aload_n 0, 1) := by decide +kernel
theorem dX12_takePart_59 : decode cX12_takePart 59 = .ok (.iconst 1, 1) := by decide +kernel
theorem dX12_takePart_60 : decode cX12_takePart 60 = .ok (.invokevirtual 197, 3) := by decide +kernel
theorem dX12_takePart_63 : decode cX12_takePart 63 = .ok (.goto 13, 3) := by decide +kernel
theorem dX12_takePart_66 : decode cX12_takePart 66 = .ok (.iload_n 1, 1) := by decide +kernel
theorem dX12_takePart_67 : decode cX12_takePart 67 = .ok (.iconst 5, 1) := by decide +kernel
theorem dX12_takePart_68 : decode cX12_takePart 68 = .ok (.if_icmp .ne 8, 3) := by decide +kernel
theorem dX12_takePart_71 : decode cX12_takePart 71 = .ok (.aload_n 0, 1) := by decide +kernel
theorem dX12_takePart_72 : decode cX12_takePart 72 = .ok (.iconst 5, 1) := by decide +kernel
theorem dX12_takePart_73 : decode cX12_takePart 73 = .ok (.invokevirtual 197, 3) := by decide +kernel
theorem dX12_takePart_76 : decode cX12_takePart 76 = .ok (.aload_n 0, 1) := by decide +kernel
theorem dX12_takePart_77 : decode cX12_takePart 77 = .ok (.getfield 191, 3) := by decide +kernel
theorem dX12_takePart_80 : decode cX12_takePart 80 = .ok (.ifCond .le 4, 3) := by decide +kernel
theorem dX12_takePart_83 : decode cX12_takePart 83 = .ok (.return_, 1) := by decide +kernel
theorem dX12_takePart_84 : decode cX12_takePart 84 = .ok (.aload_n 0, 1) := by decide +kernel
theorem dX12_takePart_85 : decode cX12_takePart 85 = .ok (.bipush 22, 2) := by decide +kernel
theorem dX12_takePart_87 : decode cX12_takePart 87 = .ok (.invokevirtual 203, 3) := by decide +kernel
theorem dX12_takePart_90 : decode cX12_takePart 90 = .ok (.ifCond .eq 19, 3) := by decide +kernel
theorem dX12_takePart_93 : decode cX12_takePart 93 = .ok (.aload_n 0, 1) := by decide +kernel
theorem dX12_takePart_94 : decode cX12_takePart 94 = .ok (.iload_n 1, 1) := by decide +kernel
theorem dX12_takePart_95 : decode cX12_takePart 95 = .ok (.iconst 1, 1) := by decide +kernel
theorem dX12_takePart_96 : decode cX12_takePart 96 = .ok (.iadd, 1) := by decide +kernel
theorem dX12_takePart_97 : decode cX12_takePart 97 = .ok (.invokevirtual 296, 3) := by decide +kernel
theorem dX12_takePart_100 : decode cX12_takePart 100 = .ok (.aload_n 0, 1) := by decide +kernel
theorem dX12_takePart_101 : decode cX12_takePart 101 = .ok (.iconst 3, 1) := by decide +kernel
theorem dX12_takePart_102 : decode cX12_takePart 102 = .ok (.iconst 0, 1) := by decide +kernel
theorem dX12_takePart_103 : decode cX12_takePart 103 = .ok (.invokevirtual 280, 3) := by decide +kernel
theorem dX12_takePart_106 : decode cX12_takePart 106 = .ok (.goto 69, 3) := by decide +kernel
theorem dX12_takePart_109 : decode cX12_takePart 109 = .ok (.aload_n 0, 1) := by decide +kernel
theorem dX12_takePart_110 : decode cX12_takePart 110 = .ok (.bipush 40, 2) := by decide +kernel
theorem dX12_takePart_112 : decode cX12_takePart 112 = .ok (.invokevirtual 290, 3) := by decide +kernel
theorem dX12_takePart_115 : decode cX12_takePart 115 = .ok (.ifCond .eq 19, 3) := by decide +kernel
theorem dX12_takePart_118 : decode cX12_takePart 118 = .ok (.aload_n 0, 1) := by decide +kernel
theorem dX12_takePart_119 : decode cX12_takePart 119 = .ok (.iload_n 1, 1) := by decide +kernel
theorem dX12_takePart_120 : decode cX12_takePart 120 = .ok (.iconst 1, 1) := by decide +kernel
theorem dX12_takePart_121 : decode cX12_takePart 121 = .ok (.iadd, 1) := by decide +kernel
theorem dX12_takePart_122 : decode cX12_takePart 122 = .ok (.invokevirtual 277, 3) := by decide +kernel
theorem dX12_takePart_125 : decode cX12_takePart 125 = .ok (.aload_n 0, 1) := by decide +kernel
theorem dX12_takePart_126 : decode cX12_takePart 126 = .ok (.bipush 41, 2) := by decide +kernel
theorem dX12_takePart_128 : decode cX12_takePart 128 = .ok (.invokevirtual 228, 3) := by decide +kernel
theorem dX12_takePart_131 : decode cX12_takePart 131 = .ok (.goto 44, 3) := by decide +kernel
theorem dX12_takePart_134 : decode cX12_takePart 134 = .ok (.aload_n 0, 1) := by decide +kernel
theorem dX12_takePart_135 : decode cX12_takePart 135 = .ok (.iload_n 2, 1) := by decide +kernel
theorem dX12_takePart_136 : decode cX12_takePart 136 = .ok (.ifCond .eq 7, 3) := by decide +kernel
theorem dX12_takePart_139 : decode cX12_takePart 139 = .ok (.iconst 1, 1) := by decide +kernel
theorem dX12_takePart_140 : decode cX12_takePart 140 = .ok (.goto 4, 3) := by decide +kernel
theorem dX12_takePart_143 : decode cX12_takePart 143 = .ok (.iconst 2, 1) := by decide +kernel
theorem dX12_takePart_144 : decode cX12_takePart 144 = .ok (.iload_n 2, 1) := by decide +kernel
theorem dX12_takePart_145 : decode cX12_takePart 145 = .ok (.ifCond .eq 16, 3) := by decide +kernel
theorem dX12_takePart_148 : decode cX12_takePart 148 = .ok (.aload_n 0, 1) := by decide +kernel
theorem dX12_takePart_149 : decode cX12_takePart 149 = .ok (.getfield 30, 3) := by decide +kernel
theorem dX12_takePart_152 : decode cX12_takePart 152 = .ok (.aload_n 0, 1) := by decide +kernel
theorem dX12_takePart_153 : decode cX12_takePart 153 = .ok (.getfield 188, 3) := by decide +kernel
theorem dX12_takePart_156 : decode cX12_takePart 156 = .ok (.laload, 1) := by decide +kernel
theorem dX12_takePart_157 : decode cX12_takePart 157 = .ok (.l2i, 1) := by decide +kernel
theorem dX12_takePart_158 : decode cX12_takePart 158 = .ok (.goto 4, 3) := by decide +kernel
theorem dX12_takePart_161 : decode cX12_takePart 161 = .ok (.iload_n 3, 1) := by decide +kernel
theorem dX12_takePart_162 : decode cX12_takePart 162 = .ok (.invokevirtual 280, 3) := by decide +kernel
theorem dX12_takePart_165 : decode cX12_takePart 165 = .ok (.aload_n 0, 1) := by decide +kernel
theorem dX12_takePart_166 : decode cX12_takePart 166 = .ok (.dup, 1) := by decide +kernel
theorem dX12_takePart_167 : decode cX12_takePart 167 = .ok (.getfield 188, 3) := by decide +kernel
theorem dX12_takePart_170 : decode cX12_takePart 170 = .ok (.iconst 1, 1) := by decide +kernel
theorem dX12_takePart_171 : decode cX12_takePart 171 = .ok (.iadd, 1) := by decide +kernel
theorem dX12_takePart_172 : decode cX12_takePart 172 = .ok (.putfield 188, 3) := by decide +kernel
theorem dX12_takePart_175 : decode cX12_takePart 175 = .ok (.return_, 1) := by decide +kernel
theorem dX12_worthAt_0 : decode cX12_worthAt 0 = .ok (.iconst 0, 1) := by decide +kernel
theorem dX12_worthAt_1 : decode cX12_worthAt 1 = .ok (.istore_n 2, 1) := by decide +kernel
theorem dX12_worthAt_2 : decode cX12_worthAt 2 = .ok (.iload_n 1, 1) := by decide +kernel
theorem dX12_worthAt_3 : decode cX12_worthAt 3 = .ok (.istore_n 3, 1) := by decide +kernel
theorem dX12_worthAt_4 : decode cX12_worthAt 4 = .ok (.aload_n 0, 1) := by decide +kernel
theorem dX12_worthAt_5 : decode cX12_worthAt 5 = .ok (.getfield 103, 3) := by decide +kernel
theorem dX12_worthAt_8 : decode cX12_worthAt 8 = .ok (.iload_n 3, 1) := by decide +kernel
theorem dX12_worthAt_9 : decode cX12_worthAt 9 = .ok (.iaload, 1) := by decide +kernel
theorem dX12_worthAt_10 : decode cX12_worthAt 10 = .ok (.ifCond .eq 130, 3) := by decide +kernel
theorem dX12_worthAt_13 : decode cX12_worthAt 13 = .ok (.aload_n 0, 1) := by decide +kernel
theorem dX12_worthAt_14 : decode cX12_worthAt 14 = .ok (.getfield 103, 3) := by decide +kernel
theorem dX12_worthAt_17 : decode cX12_worthAt 17 = .ok (.iload_n 3, 1) := by decide +kernel
theorem dX12_worthAt_18 : decode cX12_worthAt 18 = .ok (.iaload, 1) := by decide +kernel
theorem dX12_worthAt_19 : decode cX12_worthAt 19 = .ok (.istore 4, 2) := by decide +kernel
theorem dX12_worthAt_21 : decode cX12_worthAt 21 = .ok (.iload 4, 2) := by decide +kernel
theorem dX12_worthAt_23 : decode cX12_worthAt 23 = .ok (.iconst 1, 1) := by decide +kernel
theorem dX12_worthAt_24 : decode cX12_worthAt 24 = .ok (.if_icmp .eq 9, 3) := by decide +kernel
theorem dX12_worthAt_27 : decode cX12_worthAt 27 = .ok (.iload 4, 2) := by decide +kernel
theorem dX12_worthAt_29 : decode cX12_worthAt 29 = .ok (.iconst 2, 1) := by decide +kernel
theorem dX12_worthAt_30 : decode cX12_worthAt 30 = .ok (.if_icmp .ne 41, 3) := by decide +kernel
theorem dX12_worthAt_33 : decode cX12_worthAt 33 = .ok (.aload_n 0, 1) := by decide +kernel
theorem dX12_worthAt_34 : decode cX12_worthAt 34 = .ok (.getfield 124, 3) := by decide +kernel
theorem dX12_worthAt_37 : decode cX12_worthAt 37 = .ok (.iload_n 2, 1) := by decide +kernel
theorem dX12_worthAt_38 : decode cX12_worthAt 38 = .ok (.iload 4, 2) := by decide +kernel
theorem dX12_worthAt_40 : decode cX12_worthAt 40 = .ok (.iconst 1, 1) := by decide +kernel
theorem dX12_worthAt_41 : decode cX12_worthAt 41 = .ok (.if_icmp .ne 12, 3) := by decide +kernel
theorem dX12_worthAt_44 : decode cX12_worthAt 44 = .ok (.aload_n 0, 1) := by decide +kernel
theorem dX12_worthAt_45 : decode cX12_worthAt 45 = .ok (.getfield 106, 3) := by decide +kernel
theorem dX12_worthAt_48 : decode cX12_worthAt 48 = .ok (.iload_n 3, 1) := by decide +kernel
theorem dX12_worthAt_49 : decode cX12_worthAt 49 = .ok (.iaload, 1) := by decide +kernel
theorem dX12_worthAt_50 : decode cX12_worthAt 50 = .ok (.goto 14, 3) := by decide +kernel
theorem dX12_worthAt_53 : decode cX12_worthAt 53 = .ok (.aload_n 0, 1) := by decide +kernel
theorem dX12_worthAt_54 : decode cX12_worthAt 54 = .ok (.getfield 121, 3) := by decide +kernel
theorem dX12_worthAt_57 : decode cX12_worthAt 57 = .ok (.aload_n 0, 1) := by decide +kernel
theorem dX12_worthAt_58 : decode cX12_worthAt 58 = .ok (.getfield 106, 3) := by decide +kernel
theorem dX12_worthAt_61 : decode cX12_worthAt 61 = .ok (.iload_n 3, 1) := by decide +kernel
theorem dX12_worthAt_62 : decode cX12_worthAt 62 = .ok (.iaload, 1) := by decide +kernel
theorem dX12_worthAt_63 : decode cX12_worthAt 63 = .ok (.iaload, 1) := by decide +kernel
theorem dX12_worthAt_64 : decode cX12_worthAt 64 = .ok (.iastore, 1) := by decide +kernel
theorem dX12_worthAt_65 : decode cX12_worthAt 65 = .ok (.iinc 2 1, 3) := by decide +kernel
theorem dX12_worthAt_68 : decode cX12_worthAt 68 = .ok (.goto 66, 3) := by decide +kernel
theorem dX12_worthAt_71 : decode cX12_worthAt 71 = .ok (.iload 4, 2) := by decide +kernel
theorem dX12_worthAt_73 : decode cX12_worthAt 73 = .ok (.iconst 3, 1) := by decide +kernel
theorem dX12_worthAt_74 : decode cX12_worthAt 74 = .ok (.if_icmp .ne 30, 3) := by decide +kernel
theorem dX12_worthAt_77 : decode cX12_worthAt 77 = .ok (.aload_n 0, 1) := by decide +kernel
theorem dX12_worthAt_78 : decode cX12_worthAt 78 = .ok (.getfield 124, 3) := by decide +kernel
theorem dX12_worthAt_81 : decode cX12_worthAt 81 = .ok (.iload_n 2, 1) := by decide +kernel
theorem dX12_worthAt_82 : decode cX12_worthAt 82 = .ok (.iconst 1, 1) := by decide +kernel
theorem dX12_worthAt_83 : decode cX12_worthAt 83 = .ok (.isub, 1) := by decide +kernel
theorem dX12_worthAt_84 : decode cX12_worthAt 84 = .ok (.aload_n 0, 1) := by decide +kernel
theorem dX12_worthAt_85 : decode cX12_worthAt 85 = .ok (.getfield 124, 3) := by decide +kernel
theorem dX12_worthAt_88 : decode cX12_worthAt 88 = .ok (.iload_n 2, 1) := by decide +kernel
theorem dX12_worthAt_89 : decode cX12_worthAt 89 = .ok (.iconst 1, 1) := by decide +kernel
theorem dX12_worthAt_90 : decode cX12_worthAt 90 = .ok (.isub, 1) := by decide +kernel
theorem dX12_worthAt_91 : decode cX12_worthAt 91 = .ok (.iaload, 1) := by decide +kernel
theorem dX12_worthAt_92 : decode cX12_worthAt 92 = .ok (.ifCond .ne 7, 3) := by decide +kernel
theorem dX12_worthAt_95 : decode cX12_worthAt 95 = .ok (.iconst 1, 1) := by decide +kernel
theorem dX12_worthAt_96 : decode cX12_worthAt 96 = .ok (.goto 4, 3) := by decide +kernel
theorem dX12_worthAt_99 : decode cX12_worthAt 99 = .ok (.iconst 0, 1) := by decide +kernel
theorem dX12_worthAt_100 : decode cX12_worthAt 100 = .ok (.iastore, 1) := by decide +kernel
theorem dX12_worthAt_101 : decode cX12_worthAt 101 = .ok (.goto 33, 3) := by decide +kernel
theorem dX12_worthAt_104 : decode cX12_worthAt 104 = .ok (.iinc 2 (-1), 3) := by decide +kernel
theorem dX12_worthAt_107 : decode cX12_worthAt 107 = .ok (.aload_n 0, 1) := by decide +kernel
theorem dX12_worthAt_108 : decode cX12_worthAt 108 = .ok (.getfield 124, 3) := by decide +kernel
theorem dX12_worthAt_111 : decode cX12_worthAt 111 = .ok (.iload_n 2, 1) := by decide +kernel
theorem dX12_worthAt_112 : decode cX12_worthAt 112 = .ok (.iconst 1, 1) := by decide +kernel
theorem dX12_worthAt_113 : decode cX12_worthAt 113 = .ok (.isub, 1) := by decide +kernel
theorem dX12_worthAt_114 : decode cX12_worthAt 114 = .ok (.iload 4, 2) := by decide +kernel
theorem dX12_worthAt_116 : decode cX12_worthAt 116 = .ok (.aload_n 0, 1) := by decide +kernel
theorem dX12_worthAt_117 : decode cX12_worthAt 117 = .ok (.getfield 124, 3) := by decide +kernel
theorem dX12_worthAt_120 : decode cX12_worthAt 120 = .ok (.iload_n 2, 1) := by decide +kernel
theorem dX12_worthAt_121 : decode cX12_worthAt 121 = .ok (.iconst 1, 1) := by decide +kernel
theorem dX12_worthAt_122 : decode cX12_worthAt 122 = .ok (.isub, 1) := by decide +kernel
theorem dX12_worthAt_123 : decode cX12_worthAt 123 = .ok (.iaload, 1) := by decide +kernel
theorem dX12_worthAt_124 : decode cX12_worthAt 124 = .ok (.aload_n 0, 1) := by decide +kernel
theorem dX12_worthAt_125 : decode cX12_worthAt 125 = .ok (.getfield 124, 3) := by decide +kernel
theorem dX12_worthAt_128 : decode cX12_worthAt 128 = .ok (.iload_n 2, 1) := by decide +kernel
theorem dX12_worthAt_129 : decode cX12_worthAt 129 = .ok (.iaload, 1) := by decide +kernel
theorem dX12_worthAt_130 : decode cX12_worthAt 130 = .ok (.invokestatic 302, 3) := by decide +kernel
theorem dX12_worthAt_133 : decode cX12_worthAt 133 = .ok (.iastore, 1) := by decide +kernel
theorem dX12_worthAt_134 : decode cX12_worthAt 134 = .ok (.iinc 3 1, 3) := by decide +kernel
theorem dX12_worthAt_137 : decode cX12_worthAt 137 = .ok (.goto (-133), 3) := by decide +kernel
theorem dX12_worthAt_140 : decode cX12_worthAt 140 = .ok (.aload_n 0, 1) := by decide +kernel
theorem dX12_worthAt_141 : decode cX12_worthAt 141 = .ok (.getfield 124, 3) := by decide +kernel
theorem dX12_worthAt_144 : decode cX12_worthAt 144 = .ok (.iconst 0, 1) := by decide +kernel
theorem dX12_worthAt_145 : decode cX12_worthAt 145 = .ok (.iaload, 1) := by decide +kernel
theorem dX12_worthAt_146 : decode cX12_worthAt 146 = .ok (.ireturn, 1) := by decide +kernel
theorem dX12_both_0 : decode cX12_both 0 = .ok (.iload_n 0, 1) := by decide +kernel
theorem dX12_both_1 : decode cX12_both 1 = .ok (.tableswitch 87 4 9 #[39, 43, 47, 51, 62, 73], 39) := by decide +kernel
theorem dX12_both_40 : decode cX12_both 40 = .ok (.iload_n 1, 1) := by decide +kernel
theorem dX12_both_41 : decode cX12_both 41 = .ok (.iload_n 2, 1) := by decide +kernel
theorem dX12_both_42 : decode cX12_both 42 = .ok (.iadd, 1) := by decide +kernel
theorem dX12_both_43 : decode cX12_both 43 = .ok (.ireturn, 1) := by decide +kernel
theorem dX12_both_44 : decode cX12_both 44 = .ok (.iload_n 1, 1) := by decide +kernel
theorem dX12_both_45 : decode cX12_both 45 = .ok (.iload_n 2, 1) := by decide +kernel
theorem dX12_both_46 : decode cX12_both 46 = .ok (.isub, 1) := by decide +kernel
theorem dX12_both_47 : decode cX12_both 47 = .ok (.ireturn, 1) := by decide +kernel
theorem dX12_both_48 : decode cX12_both 48 = .ok (.iload_n 1, 1) := by decide +kernel
theorem dX12_both_49 : decode cX12_both 49 = .ok (.iload_n 2, 1) := by decide +kernel
theorem dX12_both_50 : decode cX12_both 50 = .ok (.imul, 1) := by decide +kernel
theorem dX12_both_51 : decode cX12_both 51 = .ok (.ireturn, 1) := by decide +kernel
theorem dX12_both_52 : decode cX12_both 52 = .ok (.iload_n 1, 1) := by decide +kernel
theorem dX12_both_53 : decode cX12_both 53 = .ok (.iload_n 2, 1) := by decide +kernel
theorem dX12_both_54 : decode cX12_both 54 = .ok (.if_icmp .ge 7, 3) := by decide +kernel
theorem dX12_both_57 : decode cX12_both 57 = .ok (.iconst 1, 1) := by decide +kernel
theorem dX12_both_58 : decode cX12_both 58 = .ok (.goto 4, 3) := by decide +kernel
theorem dX12_both_61 : decode cX12_both 61 = .ok (.iconst 0, 1) := by decide +kernel
theorem dX12_both_62 : decode cX12_both 62 = .ok (.ireturn, 1) := by decide +kernel
theorem dX12_both_63 : decode cX12_both 63 = .ok (.iload_n 1, 1) := by decide +kernel
theorem dX12_both_64 : decode cX12_both 64 = .ok (.iload_n 2, 1) := by decide +kernel
theorem dX12_both_65 : decode cX12_both 65 = .ok (.if_icmp .ne 7, 3) := by decide +kernel
theorem dX12_both_68 : decode cX12_both 68 = .ok (.iconst 1, 1) := by decide +kernel
theorem dX12_both_69 : decode cX12_both 69 = .ok (.goto 4, 3) := by decide +kernel
theorem dX12_both_72 : decode cX12_both 72 = .ok (.iconst 0, 1) := by decide +kernel
theorem dX12_both_73 : decode cX12_both 73 = .ok (.ireturn, 1) := by decide +kernel
theorem dX12_both_74 : decode cX12_both 74 = .ok (.iload_n 1, 1) := by decide +kernel
theorem dX12_both_75 : decode cX12_both 75 = .ok (.ifCond .eq 11, 3) := by decide +kernel
theorem dX12_both_78 : decode cX12_both 78 = .ok (.iload_n 2, 1) := by decide +kernel
theorem dX12_both_79 : decode cX12_both 79 = .ok (.ifCond .eq 7, 3) := by decide +kernel
theorem dX12_both_82 : decode cX12_both 82 = .ok (.iconst 1, 1) := by decide +kernel
theorem dX12_both_83 : decode cX12_both 83 = .ok (.goto 4, 3) := by decide +kernel
theorem dX12_both_86 : decode cX12_both 86 = .ok (.iconst 0, 1) := by decide +kernel
theorem dX12_both_87 : decode cX12_both 87 = .ok (.ireturn, 1) := by decide +kernel
theorem dX12_both_88 : decode cX12_both 88 = .ok (.iload_n 1, 1) := by decide +kernel
theorem dX12_both_89 : decode cX12_both 89 = .ok (.ifCond .ne 7, 3) := by decide +kernel
theorem dX12_both_92 : decode cX12_both 92 = .ok (.iload_n 2, 1) := by decide +kernel
theorem dX12_both_93 : decode cX12_both 93 = .ok (.ifCond .eq 7, 3) := by decide +kernel
theorem dX12_both_96 : decode cX12_both 96 = .ok (.iconst 1, 1) := by decide +kernel
theorem dX12_both_97 : decode cX12_both 97 = .ok (.goto 4, 3) := by decide +kernel
theorem dX12_both_100 : decode cX12_both 100 = .ok (.iconst 0, 1) := by decide +kernel
theorem dX12_both_101 : decode cX12_both 101 = .ok (.ireturn, 1) := by decide +kernel
theorem dX12_copies_0 : decode cX12_copies 0 = .ok (.iconst 0, 1) := by decide +kernel
theorem dX12_copies_1 : decode cX12_copies 1 = .ok (.istore 4, 2) := by decide +kernel
theorem dX12_copies_3 : decode cX12_copies 3 = .ok (.iload 4, 2) := by decide +kernel
theorem dX12_copies_5 : decode cX12_copies 5 = .ok (.iload_n 3, 1) := by decide +kernel
theorem dX12_copies_6 : decode cX12_copies 6 = .ok (.if_icmp .ge 35, 3) := by decide +kernel
theorem dX12_copies_9 : decode cX12_copies 9 = .ok (.aload_n 0, 1) := by decide +kernel
theorem dX12_copies_10 : decode cX12_copies 10 = .ok (.getfield 127, 3) := by decide +kernel
theorem dX12_copies_13 : decode cX12_copies 13 = .ok (.sipush 240, 3) := by decide +kernel
theorem dX12_copies_16 : decode cX12_copies 16 = .ok (.iload_n 2, 1) := by decide +kernel
theorem dX12_copies_17 : decode cX12_copies 17 = .ok (.imul, 1) := by decide +kernel
theorem dX12_copies_18 : decode cX12_copies 18 = .ok (.iload 4, 2) := by decide +kernel
theorem dX12_copies_20 : decode cX12_copies 20 = .ok (.iadd, 1) := by decide +kernel
theorem dX12_copies_21 : decode cX12_copies 21 = .ok (.aload_n 0, 1) := by decide +kernel
theorem dX12_copies_22 : decode cX12_copies 22 = .ok (.getfield 127, 3) := by decide +kernel
theorem dX12_copies_25 : decode cX12_copies 25 = .ok (.sipush 240, 3) := by decide +kernel
theorem dX12_copies_28 : decode cX12_copies 28 = .ok (.iload_n 1, 1) := by decide +kernel
theorem dX12_copies_29 : decode cX12_copies 29 = .ok (.imul, 1) := by decide +kernel
theorem dX12_copies_30 : decode cX12_copies 30 = .ok (.iload 4, 2) := by decide +kernel
theorem dX12_copies_32 : decode cX12_copies 32 = .ok (.iadd, 1) := by decide +kernel
theorem dX12_copies_33 : decode cX12_copies 33 = .ok (.iaload, 1) := by decide +kernel
theorem dX12_copies_34 : decode cX12_copies 34 = .ok (.iastore, 1) := by decide +kernel
theorem dX12_copies_35 : decode cX12_copies 35 = .ok (.iinc 4 1, 3) := by decide +kernel
theorem dX12_copies_38 : decode cX12_copies 38 = .ok (.goto (-35), 3) := by decide +kernel
theorem dX12_copies_41 : decode cX12_copies 41 = .ok (.return_, 1) := by decide +kernel
theorem dX12_keeps_0 : decode cX12_keeps 0 = .ok (.aload_n 0, 1) := by decide +kernel
theorem dX12_keeps_1 : decode cX12_keeps 1 = .ok (.getfield 231, 3) := by decide +kernel
theorem dX12_keeps_4 : decode cX12_keeps 4 = .ok (.bipush 20, 2) := by decide +kernel
theorem dX12_keeps_6 : decode cX12_keeps 6 = .ok (.if_icmp .ne 41, 3) := by decide +kernel
theorem dX12_keeps_9 : decode cX12_keeps 9 = .ok (.iconst 1, 1) := by decide +kernel
theorem dX12_keeps_10 : decode cX12_keeps 10 = .ok (.istore_n 1, 1) := by decide +kernel
theorem dX12_keeps_11 : decode cX12_keeps 11 = .ok (.iload_n 1, 1) := by decide +kernel
theorem dX12_keeps_12 : decode cX12_keeps 12 = .ok (.bipush 20, 2) := by decide +kernel
theorem dX12_keeps_14 : decode cX12_keeps 14 = .ok (.if_icmp .ge 23, 3) := by decide +kernel
theorem dX12_keeps_17 : decode cX12_keeps 17 = .ok (.aload_n 0, 1) := by decide +kernel
theorem dX12_keeps_18 : decode cX12_keeps 18 = .ok (.iconst 5, 1) := by decide +kernel
theorem dX12_keeps_19 : decode cX12_keeps 19 = .ok (.iload_n 1, 1) := by decide +kernel
theorem dX12_keeps_20 : decode cX12_keeps 20 = .ok (.iadd, 1) := by decide +kernel
theorem dX12_keeps_21 : decode cX12_keeps 21 = .ok (.iconst 5, 1) := by decide +kernel
theorem dX12_keeps_22 : decode cX12_keeps 22 = .ok (.iload_n 1, 1) := by decide +kernel
theorem dX12_keeps_23 : decode cX12_keeps 23 = .ok (.iadd, 1) := by decide +kernel
theorem dX12_keeps_24 : decode cX12_keeps 24 = .ok (.iconst 1, 1) := by decide +kernel
theorem dX12_keeps_25 : decode cX12_keeps 25 = .ok (.isub, 1) := by decide +kernel
theorem dX12_keeps_26 : decode cX12_keeps 26 = .ok (.bipush 37, 2) := by decide +kernel
theorem dX12_keeps_28 : decode cX12_keeps 28 = .ok (.invokevirtual 305, 3) := by decide +kernel
theorem dX12_keeps_31 : decode cX12_keeps 31 = .ok (.iinc 1 1, 3) := by decide +kernel
theorem dX12_keeps_34 : decode cX12_keeps 34 = .ok (.goto (-23), 3) := by decide +kernel
theorem dX12_keeps_37 : decode cX12_keeps 37 = .ok (.aload_n 0, 1) := by decide +kernel
theorem dX12_keeps_38 : decode cX12_keeps 38 = .ok (.dup, 1) := by decide +kernel
theorem dX12_keeps_39 : decode cX12_keeps 39 = .ok (.getfield 231, 3) := by decide +kernel
theorem dX12_keeps_42 : decode cX12_keeps 42 = .ok (.iconst 1, 1) := by decide +kernel
theorem dX12_keeps_43 : decode cX12_keeps 43 = .ok (.isub, 1) := by decide +kernel
theorem dX12_keeps_44 : decode cX12_keeps 44 = .ok (.putfield 231, 3) := by decide +kernel
theorem dX12_keeps_47 : decode cX12_keeps 47 = .ok (.aload_n 0, 1) := by decide +kernel
theorem dX12_keeps_48 : decode cX12_keeps 48 = .ok (.iconst 0, 1) := by decide +kernel
theorem dX12_keeps_49 : decode cX12_keeps 49 = .ok (.iconst 5, 1) := by decide +kernel
theorem dX12_keeps_50 : decode cX12_keeps 50 = .ok (.aload_n 0, 1) := by decide +kernel
theorem dX12_keeps_51 : decode cX12_keeps 51 = .ok (.getfield 231, 3) := by decide +kernel
theorem dX12_keeps_54 : decode cX12_keeps 54 = .ok (.iadd, 1) := by decide +kernel
theorem dX12_keeps_55 : decode cX12_keeps 55 = .ok (.bipush 37, 2) := by decide +kernel
theorem dX12_keeps_57 : decode cX12_keeps 57 = .ok (.invokevirtual 305, 3) := by decide +kernel
theorem dX12_keeps_60 : decode cX12_keeps 60 = .ok (.aload_n 0, 1) := by decide +kernel
theorem dX12_keeps_61 : decode cX12_keeps 61 = .ok (.dup, 1) := by decide +kernel
theorem dX12_keeps_62 : decode cX12_keeps 62 = .ok (.getfield 231, 3) := by decide +kernel
theorem dX12_keeps_65 : decode cX12_keeps 65 = .ok (.iconst 1, 1) := by decide +kernel
theorem dX12_keeps_66 : decode cX12_keeps 66 = .ok (.iadd, 1) := by decide +kernel
theorem dX12_keeps_67 : decode cX12_keeps 67 = .ok (.putfield 231, 3) := by decide +kernel
theorem dX12_keeps_70 : decode cX12_keeps 70 = .ok (.return_, 1) := by decide +kernel
theorem dX12_rests_0 : decode cX12_rests 0 = .ok (.aload_n 0, 1) := by decide +kernel
theorem dX12_rests_1 : decode cX12_rests 1 = .ok (.getfield 127, 3) := by decide +kernel
theorem dX12_rests_4 : decode cX12_rests 4 = .ok (.bipush 38, 2) := by decide +kernel
theorem dX12_rests_6 : decode cX12_rests 6 = .ok (.iconst 0, 1) := by decide +kernel
theorem dX12_rests_7 : decode cX12_rests 7 = .ok (.iastore, 1) := by decide +kernel
theorem dX12_rests_8 : decode cX12_rests 8 = .ok (.aload_n 0, 1) := by decide +kernel
theorem dX12_rests_9 : decode cX12_rests 9 = .ok (.getfield 127, 3) := by decide +kernel
theorem dX12_rests_12 : decode cX12_rests 12 = .ok (.bipush 39, 2) := by decide +kernel
theorem dX12_rests_14 : decode cX12_rests 14 = .ok (.aload_n 0, 1) := by decide +kernel
theorem dX12_rests_15 : decode cX12_rests 15 = .ok (.getfield 97, 3) := by decide +kernel
theorem dX12_rests_18 : decode cX12_rests 18 = .ok (.iconst 4, 1) := by decide +kernel
theorem dX12_rests_19 : decode cX12_rests 19 = .ok (.iaload, 1) := by decide +kernel
theorem dX12_rests_20 : decode cX12_rests 20 = .ok (.iastore, 1) := by decide +kernel
theorem dX12_rests_21 : decode cX12_rests 21 = .ok (.aload_n 0, 1) := by decide +kernel
theorem dX12_rests_22 : decode cX12_rests 22 = .ok (.getfield 127, 3) := by decide +kernel
theorem dX12_rests_25 : decode cX12_rests 25 = .ok (.bipush 40, 2) := by decide +kernel
theorem dX12_rests_27 : decode cX12_rests 27 = .ok (.iconst 0, 1) := by decide +kernel
theorem dX12_rests_28 : decode cX12_rests 28 = .ok (.iastore, 1) := by decide +kernel
theorem dX12_rests_29 : decode cX12_rests 29 = .ok (.aload_n 0, 1) := by decide +kernel
theorem dX12_rests_30 : decode cX12_rests 30 = .ok (.getfield 127, 3) := by decide +kernel
theorem dX12_rests_33 : decode cX12_rests 33 = .ok (.bipush 41, 2) := by decide +kernel
theorem dX12_rests_35 : decode cX12_rests 35 = .ok (.iconst 0, 1) := by decide +kernel
theorem dX12_rests_36 : decode cX12_rests 36 = .ok (.iastore, 1) := by decide +kernel
theorem dX12_rests_37 : decode cX12_rests 37 = .ok (.aload_n 0, 1) := by decide +kernel
theorem dX12_rests_38 : decode cX12_rests 38 = .ok (.getfield 127, 3) := by decide +kernel
theorem dX12_rests_41 : decode cX12_rests 41 = .ok (.bipush 42, 2) := by decide +kernel
theorem dX12_rests_43 : decode cX12_rests 43 = .ok (.iconst 0, 1) := by decide +kernel
theorem dX12_rests_44 : decode cX12_rests 44 = .ok (.iastore, 1) := by decide +kernel
theorem dX12_rests_45 : decode cX12_rests 45 = .ok (.iconst 0, 1) := by decide +kernel
theorem dX12_rests_46 : decode cX12_rests 46 = .ok (.istore_n 1, 1) := by decide +kernel
theorem dX12_rests_47 : decode cX12_rests 47 = .ok (.iload_n 1, 1) := by decide +kernel
theorem dX12_rests_48 : decode cX12_rests 48 = .ok (.bipush 7, 2) := by decide +kernel
theorem dX12_rests_50 : decode cX12_rests 50 = .ok (.if_icmp .ge 31, 3) := by decide +kernel
theorem dX12_rests_53 : decode cX12_rests 53 = .ok (.aload_n 0, 1) := by decide +kernel
theorem dX12_rests_54 : decode cX12_rests 54 = .ok (.getfield 127, 3) := by decide +kernel
theorem dX12_rests_57 : decode cX12_rests 57 = .ok (.bipush 43, 2) := by decide +kernel
theorem dX12_rests_59 : decode cX12_rests 59 = .ok (.iload_n 1, 1) := by decide +kernel
theorem dX12_rests_60 : decode cX12_rests 60 = .ok (.iadd, 1) := by decide +kernel
theorem dX12_rests_61 : decode cX12_rests 61 = .ok (.aload_n 0, 1) := by decide +kernel
theorem dX12_rests_62 : decode cX12_rests 62 = .ok (.getfield 97, 3) := by decide +kernel
theorem dX12_rests_65 : decode cX12_rests 65 = .ok (.bipush 8, 2) := by decide +kernel
theorem dX12_rests_67 : decode cX12_rests 67 = .ok (.iconst 2, 1) := by decide +kernel
theorem dX12_rests_68 : decode cX12_rests 68 = .ok (.iload_n 1, 1) := by decide +kernel
theorem dX12_rests_69 : decode cX12_rests 69 = .ok (.imul, 1) := by decide +kernel
theorem dX12_rests_70 : decode cX12_rests 70 = .ok (.iadd, 1) := by decide +kernel
theorem dX12_rests_71 : decode cX12_rests 71 = .ok (.iconst 1, 1) := by decide +kernel
theorem dX12_rests_72 : decode cX12_rests 72 = .ok (.iadd, 1) := by decide +kernel
theorem dX12_rests_73 : decode cX12_rests 73 = .ok (.iaload, 1) := by decide +kernel
theorem dX12_rests_74 : decode cX12_rests 74 = .ok (.iastore, 1) := by decide +kernel
theorem dX12_rests_75 : decode cX12_rests 75 = .ok (.iinc 1 1, 3) := by decide +kernel
theorem dX12_rests_78 : decode cX12_rests 78 = .ok (.goto (-31), 3) := by decide +kernel
theorem dX12_rests_81 : decode cX12_rests 81 = .ok (.return_, 1) := by decide +kernel
theorem dX12_stations_0 : decode cX12_stations 0 = .ok (.aload_n 0, 1) := by decide +kernel
theorem dX12_stations_1 : decode cX12_stations 1 = .ok (.getfield 97, 3) := by decide +kernel
theorem dX12_stations_4 : decode cX12_stations 4 = .ok (.iconst 0, 1) := by decide +kernel
theorem dX12_stations_5 : decode cX12_stations 5 = .ok (.iaload, 1) := by decide +kernel
theorem dX12_stations_6 : decode cX12_stations 6 = .ok (.ireturn, 1) := by decide +kernel
theorem dX12_carriers_0 : decode cX12_carriers 0 = .ok (.aload_n 0, 1) := by decide +kernel
theorem dX12_carriers_1 : decode cX12_carriers 1 = .ok (.getfield 97, 3) := by decide +kernel
theorem dX12_carriers_4 : decode cX12_carriers 4 = .ok (.iconst 2, 1) := by decide +kernel
theorem dX12_carriers_5 : decode cX12_carriers 5 = .ok (.iaload, 1) := by decide +kernel
theorem dX12_carriers_6 : decode cX12_carriers 6 = .ok (.ireturn, 1) := by decide +kernel
theorem dX12_isStation_0 : decode cX12_isStation 0 = .ok (.iload_n 1, 1) := by decide +kernel
theorem dX12_isStation_1 : decode cX12_isStation 1 = .ok (.ifCond .lt 15, 3) := by decide +kernel
theorem dX12_isStation_4 : decode cX12_isStation 4 = .ok (.iload_n 1, 1) := by decide +kernel
theorem dX12_isStation_5 : decode cX12_isStation 5 = .ok (.aload_n 0, 1) := by decide +kernel
theorem dX12_isStation_6 : decode cX12_isStation 6 = .ok (.invokevirtual 309, 3) := by decide +kernel
theorem dX12_isStation_9 : decode cX12_isStation 9 = .ok (.if_icmp .ge 7, 3) := by decide +kernel
theorem dX12_isStation_12 : decode cX12_isStation 12 = .ok (.iconst 1, 1) := by decide +kernel
theorem dX12_isStation_13 : decode cX12_isStation 13 = .ok (.goto 4, 3) := by decide +kernel
theorem dX12_isStation_16 : decode cX12_isStation 16 = .ok (.iconst 0, 1) := by decide +kernel
theorem dX12_isStation_17 : decode cX12_isStation 17 = .ok (.ireturn, 1) := by decide +kernel
theorem dX12_isCarrier_0 : decode cX12_isCarrier 0 = .ok (.iload_n 1, 1) := by decide +kernel
theorem dX12_isCarrier_1 : decode cX12_isCarrier 1 = .ok (.ifCond .lt 15, 3) := by decide +kernel
theorem dX12_isCarrier_4 : decode cX12_isCarrier 4 = .ok (.iload_n 1, 1) := by decide +kernel
theorem dX12_isCarrier_5 : decode cX12_isCarrier 5 = .ok (.aload_n 0, 1) := by decide +kernel
theorem dX12_isCarrier_6 : decode cX12_isCarrier 6 = .ok (.invokevirtual 312, 3) := by decide +kernel
theorem dX12_isCarrier_9 : decode cX12_isCarrier 9 = .ok (.if_icmp .ge 7, 3) := by decide +kernel
theorem dX12_isCarrier_12 : decode cX12_isCarrier 12 = .ok (.iconst 1, 1) := by decide +kernel
theorem dX12_isCarrier_13 : decode cX12_isCarrier 13 = .ok (.goto 4, 3) := by decide +kernel
theorem dX12_isCarrier_16 : decode cX12_isCarrier 16 = .ok (.iconst 0, 1) := by decide +kernel
theorem dX12_isCarrier_17 : decode cX12_isCarrier 17 = .ok (.ireturn, 1) := by decide +kernel
theorem dX12_carrierOf_0 : decode cX12_carrierOf 0 = .ok (.aload_n 0, 1) := by decide +kernel
theorem dX12_carrierOf_1 : decode cX12_carrierOf 1 = .ok (.getfield 97, 3) := by decide +kernel
theorem dX12_carrierOf_4 : decode cX12_carrierOf 4 = .ok (.bipush 120, 2) := by decide +kernel
theorem dX12_carrierOf_6 : decode cX12_carrierOf 6 = .ok (.iconst 4, 1) := by decide +kernel
theorem dX12_carrierOf_7 : decode cX12_carrierOf 7 = .ok (.iload_n 1, 1) := by decide +kernel
theorem dX12_carrierOf_8 : decode cX12_carrierOf 8 = .ok (.imul, 1) := by decide +kernel
theorem dX12_carrierOf_9 : decode cX12_carrierOf 9 = .ok (.iadd, 1) := by decide +kernel
theorem dX12_carrierOf_10 : decode cX12_carrierOf 10 = .ok (.iload_n 2, 1) := by decide +kernel
theorem dX12_carrierOf_11 : decode cX12_carrierOf 11 = .ok (.iadd, 1) := by decide +kernel
theorem dX12_carrierOf_12 : decode cX12_carrierOf 12 = .ok (.iaload, 1) := by decide +kernel
theorem dX12_carrierOf_13 : decode cX12_carrierOf 13 = .ok (.ireturn, 1) := by decide +kernel
theorem dX12_holds_0 : decode cX12_holds 0 = .ok (.aload_n 0, 1) := by decide +kernel
theorem dX12_holds_1 : decode cX12_holds 1 = .ok (.iload_n 1, 1) := by decide +kernel
theorem dX12_holds_2 : decode cX12_holds 2 = .ok (.iconst 0, 1) := by decide +kernel
theorem dX12_holds_3 : decode cX12_holds 3 = .ok (.invokevirtual 315, 3) := by decide +kernel
theorem dX12_holds_6 : decode cX12_holds 6 = .ok (.iconst 2, 1) := by decide +kernel
theorem dX12_holds_7 : decode cX12_holds 7 = .ok (.if_icmp .ne 14, 3) := by decide +kernel
theorem dX12_holds_10 : decode cX12_holds 10 = .ok (.iconst 2, 1) := by decide +kernel
theorem dX12_holds_11 : decode cX12_holds 11 = .ok (.aload_n 0, 1) := by decide +kernel
theorem dX12_holds_12 : decode cX12_holds 12 = .ok (.iload_n 1, 1) := by decide +kernel
theorem dX12_holds_13 : decode cX12_holds 13 = .ok (.iconst 1, 1) := by decide +kernel
theorem dX12_holds_14 : decode cX12_holds 14 = .ok (.invokevirtual 315, 3) := by decide +kernel
theorem dX12_holds_17 : decode cX12_holds 17 = .ok (.imul, 1) := by decide +kernel
theorem dX12_holds_18 : decode cX12_holds 18 = .ok (.goto 9, 3) := by decide +kernel
theorem dX12_holds_21 : decode cX12_holds 21 = .ok (.aload_n 0, 1) := by decide +kernel
theorem dX12_holds_22 : decode cX12_holds 22 = .ok (.iload_n 1, 1) := by decide +kernel
theorem dX12_holds_23 : decode cX12_holds 23 = .ok (.iconst 1, 1) := by decide +kernel
theorem dX12_holds_24 : decode cX12_holds 24 = .ok (.invokevirtual 315, 3) := by decide +kernel
theorem dX12_holds_27 : decode cX12_holds 27 = .ok (.ireturn, 1) := by decide +kernel
theorem dX12_wayOf_0 : decode cX12_wayOf 0 = .ok (.aload_n 0, 1) := by decide +kernel
theorem dX12_wayOf_1 : decode cX12_wayOf 1 = .ok (.getfield 97, 3) := by decide +kernel
theorem dX12_wayOf_4 : decode cX12_wayOf 4 = .ok (.bipush 22, 2) := by decide +kernel
theorem dX12_wayOf_6 : decode cX12_wayOf 6 = .ok (.iconst 2, 1) := by decide +kernel
theorem dX12_wayOf_7 : decode cX12_wayOf 7 = .ok (.bipush 7, 2) := by decide +kernel
theorem dX12_wayOf_9 : decode cX12_wayOf 9 = .ok (.iload_n 1, 1) := by decide +kernel
theorem dX12_wayOf_10 : decode cX12_wayOf 10 = .ok (.imul, 1) := by decide +kernel
theorem dX12_wayOf_11 : decode cX12_wayOf 11 = .ok (.iload_n 2, 1) := by decide +kernel
theorem dX12_wayOf_12 : decode cX12_wayOf 12 = .ok (.iadd, 1) := by decide +kernel
theorem dX12_wayOf_13 : decode cX12_wayOf 13 = .ok (.imul, 1) := by decide +kernel
theorem dX12_wayOf_14 : decode cX12_wayOf 14 = .ok (.iadd, 1) := by decide +kernel
theorem dX12_wayOf_15 : decode cX12_wayOf 15 = .ok (.iload_n 3, 1) := by decide +kernel
theorem dX12_wayOf_16 : decode cX12_wayOf 16 = .ok (.iadd, 1) := by decide +kernel
theorem dX12_wayOf_17 : decode cX12_wayOf 17 = .ok (.iaload, 1) := by decide +kernel
theorem dX12_wayOf_18 : decode cX12_wayOf 18 = .ok (.ireturn, 1) := by decide +kernel
theorem dX12_isPatched_0 : decode cX12_isPatched 0 = .ok (.aload_n 0, 1) := by decide +kernel
theorem dX12_isPatched_1 : decode cX12_isPatched 1 = .ok (.getfield 127, 3) := by decide +kernel
theorem dX12_isPatched_4 : decode cX12_isPatched 4 = .ok (.bipush 36, 2) := by decide +kernel
theorem dX12_isPatched_6 : decode cX12_isPatched 6 = .ok (.iaload, 1) := by decide +kernel
theorem dX12_isPatched_7 : decode cX12_isPatched 7 = .ok (.iload_n 1, 1) := by decide +kernel
theorem dX12_isPatched_8 : decode cX12_isPatched 8 = .ok (.ishr, 1) := by decide +kernel
theorem dX12_isPatched_9 : decode cX12_isPatched 9 = .ok (.iconst 1, 1) := by decide +kernel
theorem dX12_isPatched_10 : decode cX12_isPatched 10 = .ok (.iand, 1) := by decide +kernel
theorem dX12_isPatched_11 : decode cX12_isPatched 11 = .ok (.iconst 1, 1) := by decide +kernel
theorem dX12_isPatched_12 : decode cX12_isPatched 12 = .ok (.if_icmp .ne 7, 3) := by decide +kernel
theorem dX12_isPatched_15 : decode cX12_isPatched 15 = .ok (.iconst 1, 1) := by decide +kernel
theorem dX12_isPatched_16 : decode cX12_isPatched 16 = .ok (.goto 4, 3) := by decide +kernel
theorem dX12_isPatched_19 : decode cX12_isPatched 19 = .ok (.iconst 0, 1) := by decide +kernel
theorem dX12_isPatched_20 : decode cX12_isPatched 20 = .ok (.ireturn, 1) := by decide +kernel
theorem dX12_debtOf_0 : decode cX12_debtOf 0 = .ok (.iconst 0, 1) := by decide +kernel
theorem dX12_debtOf_1 : decode cX12_debtOf 1 = .ok (.istore_n 2, 1) := by decide +kernel
theorem dX12_debtOf_2 : decode cX12_debtOf 2 = .ok (.iconst 0, 1) := by decide +kernel
theorem dX12_debtOf_3 : decode cX12_debtOf 3 = .ok (.istore_n 3, 1) := by decide +kernel
theorem dX12_debtOf_4 : decode cX12_debtOf 4 = .ok (.iload_n 3, 1) := by decide +kernel
theorem dX12_debtOf_5 : decode cX12_debtOf 5 = .ok (.bipush 6, 2) := by decide +kernel
theorem dX12_debtOf_7 : decode cX12_debtOf 7 = .ok (.if_icmp .ge 35, 3) := by decide +kernel
theorem dX12_debtOf_10 : decode cX12_debtOf 10 = .ok (.iload_n 2, 1) := by decide +kernel
theorem dX12_debtOf_11 : decode cX12_debtOf 11 = .ok (.aload_n 0, 1) := by decide +kernel
theorem dX12_debtOf_12 : decode cX12_debtOf 12 = .ok (.getfield 127, 3) := by decide +kernel
theorem dX12_debtOf_15 : decode cX12_debtOf 15 = .ok (.bipush 6, 2) := by decide +kernel
theorem dX12_debtOf_17 : decode cX12_debtOf 17 = .ok (.iload_n 1, 1) := by decide +kernel
theorem dX12_debtOf_18 : decode cX12_debtOf 18 = .ok (.imul, 1) := by decide +kernel
theorem dX12_debtOf_19 : decode cX12_debtOf 19 = .ok (.iload_n 3, 1) := by decide +kernel
theorem dX12_debtOf_20 : decode cX12_debtOf 20 = .ok (.iadd, 1) := by decide +kernel
theorem dX12_debtOf_21 : decode cX12_debtOf 21 = .ok (.iaload, 1) := by decide +kernel
theorem dX12_debtOf_22 : decode cX12_debtOf 22 = .ok (.aload_n 0, 1) := by decide +kernel
theorem dX12_debtOf_23 : decode cX12_debtOf 23 = .ok (.getfield 127, 3) := by decide +kernel
theorem dX12_debtOf_26 : decode cX12_debtOf 26 = .ok (.bipush 6, 2) := by decide +kernel
theorem dX12_debtOf_28 : decode cX12_debtOf 28 = .ok (.iload_n 3, 1) := by decide +kernel
theorem dX12_debtOf_29 : decode cX12_debtOf 29 = .ok (.imul, 1) := by decide +kernel
theorem dX12_debtOf_30 : decode cX12_debtOf 30 = .ok (.iload_n 1, 1) := by decide +kernel
theorem dX12_debtOf_31 : decode cX12_debtOf 31 = .ok (.iadd, 1) := by decide +kernel
theorem dX12_debtOf_32 : decode cX12_debtOf 32 = .ok (.iaload, 1) := by decide +kernel
theorem dX12_debtOf_33 : decode cX12_debtOf 33 = .ok (.isub, 1) := by decide +kernel
theorem dX12_debtOf_34 : decode cX12_debtOf 34 = .ok (.iadd, 1) := by decide +kernel
theorem dX12_debtOf_35 : decode cX12_debtOf 35 = .ok (.istore_n 2, 1) := by decide +kernel
theorem dX12_debtOf_36 : decode cX12_debtOf 36 = .ok (.iinc 3 1, 3) := by decide +kernel
theorem dX12_debtOf_39 : decode cX12_debtOf 39 = .ok (.goto (-35), 3) := by decide +kernel
theorem dX12_debtOf_42 : decode cX12_debtOf 42 = .ok (.iload_n 2, 1) := by decide +kernel
theorem dX12_debtOf_43 : decode cX12_debtOf 43 = .ok (.ireturn, 1) := by decide +kernel
theorem dX12_findPaths_0 : decode cX12_findPaths 0 = .ok (.aload_n 0, 1) := by decide +kernel
theorem dX12_findPaths_1 : decode cX12_findPaths 1 = .ok (.iconst 0, 1) := by decide +kernel
theorem dX12_findPaths_2 : decode cX12_findPaths 2 = .ok (.putfield 318, 3) := by decide +kernel
theorem dX12_findPaths_5 : decode cX12_findPaths 5 = .ok (.aload_n 0, 1) := by decide +kernel
theorem dX12_findPaths_6 : decode cX12_findPaths 6 = .ok (.invokevirtual 309, 3) := by decide +kernel
theorem dX12_findPaths_9 : decode cX12_findPaths 9 = .ok (.ifCond .le 16, 3) := by decide +kernel
theorem dX12_findPaths_12 : decode cX12_findPaths 12 = .ok (.aload_n 0, 1) := by decide +kernel
theorem dX12_findPaths_13 : decode cX12_findPaths 13 = .ok (.getfield 137, 3) := by decide +kernel
theorem dX12_findPaths_16 : decode cX12_findPaths 16 = .ok (.iconst 0, 1) := by decide +kernel
theorem dX12_findPaths_17 : decode cX12_findPaths 17 = .ok (.iconst 0, 1) := by decide +kernel
theorem dX12_findPaths_18 : decode cX12_findPaths 18 = .ok (.iastore, 1) := by decide +kernel
theorem dX12_findPaths_19 : decode cX12_findPaths 19 = .ok (.aload_n 0, 1) := by decide +kernel
theorem dX12_findPaths_20 : decode cX12_findPaths 20 = .ok (.iconst 1, 1) := by decide +kernel
theorem dX12_findPaths_21 : decode cX12_findPaths 21 = .ok (.iconst 1, 1) := by decide +kernel
theorem dX12_findPaths_22 : decode cX12_findPaths 22 = .ok (.invokevirtual 321, 3) := by decide +kernel
theorem dX12_findPaths_25 : decode cX12_findPaths 25 = .ok (.return_, 1) := by decide +kernel
theorem dX12_goesOn_0 : decode cX12_goesOn 0 = .ok (.aload_n 0, 1) := by decide +kernel
theorem dX12_goesOn_1 : decode cX12_goesOn 1 = .ok (.getfield 137, 3) := by decide +kernel
theorem dX12_goesOn_4 : decode cX12_goesOn 4 = .ok (.iload_n 1, 1) := by decide +kernel
theorem dX12_goesOn_5 : decode cX12_goesOn 5 = .ok (.iconst 1, 1) := by decide +kernel
theorem dX12_goesOn_6 : decode cX12_goesOn 6 = .ok (.isub, 1) := by decide +kernel
theorem dX12_goesOn_7 : decode cX12_goesOn 7 = .ok (.iaload, 1) := by decide +kernel
theorem dX12_goesOn_8 : decode cX12_goesOn 8 = .ok (.aload_n 0, 1) := by decide +kernel
theorem dX12_goesOn_9 : decode cX12_goesOn 9 = .ok (.invokevirtual 309, 3) := by decide +kernel
theorem dX12_goesOn_12 : decode cX12_goesOn 12 = .ok (.iconst 1, 1) := by decide +kernel
theorem dX12_goesOn_13 : decode cX12_goesOn 13 = .ok (.isub, 1) := by decide +kernel
theorem dX12_goesOn_14 : decode cX12_goesOn 14 = .ok (.if_icmp .ne 62, 3) := by decide +kernel
theorem dX12_goesOn_17 : decode cX12_goesOn 17 = .ok (.aload_n 0, 1) := by decide +kernel
theorem dX12_goesOn_18 : decode cX12_goesOn 18 = .ok (.getfield 134, 3) := by decide +kernel
theorem dX12_goesOn_21 : decode cX12_goesOn 21 = .ok (.bipush 8, 2) := by decide +kernel
theorem dX12_goesOn_23 : decode cX12_goesOn 23 = .ok (.aload_n 0, 1) := by decide +kernel
theorem dX12_goesOn_24 : decode cX12_goesOn 24 = .ok (.getfield 318, 3) := by decide +kernel
theorem dX12_goesOn_27 : decode cX12_goesOn 27 = .ok (.imul, 1) := by decide +kernel
theorem dX12_goesOn_28 : decode cX12_goesOn 28 = .ok (.iload_n 1, 1) := by decide +kernel
theorem dX12_goesOn_29 : decode cX12_goesOn 29 = .ok (.iastore, 1) := by decide +kernel
theorem dX12_goesOn_30 : decode cX12_goesOn 30 = .ok (.iconst 0, 1) := by decide +kernel
theorem dX12_goesOn_31 : decode cX12_goesOn 31 = .ok (.istore_n 3, 1) := by decide +kernel
theorem dX12_goesOn_32 : decode cX12_goesOn 32 = .ok (.iload_n 3, 1) := by decide +kernel
theorem dX12_goesOn_33 : decode cX12_goesOn 33 = .ok (.iload_n 1, 1) := by decide +kernel
theorem dX12_goesOn_34 : decode cX12_goesOn 34 = .ok (.if_icmp .ge 31, 3) := by decide +kernel
theorem dX12_goesOn_37 : decode cX12_goesOn 37 = .ok (.aload_n 0, 1) := by decide +kernel
theorem dX12_goesOn_38 : decode cX12_goesOn 38 = .ok (.getfield 134, 3) := by decide +kernel
theorem dX12_goesOn_41 : decode cX12_goesOn 41 = .ok (.bipush 8, 2) := by decide +kernel
theorem dX12_goesOn_43 : decode cX12_goesOn 43 = .ok (.aload_n 0, 1) := by decide +kernel
theorem dX12_goesOn_44 : decode cX12_goesOn 44 = .ok (.getfield 318, 3) := by decide +kernel
theorem dX12_goesOn_47 : decode cX12_goesOn 47 = .ok (.imul, 1) := by decide +kernel
theorem dX12_goesOn_48 : decode cX12_goesOn 48 = .ok (.iconst 1, 1) := by decide +kernel
theorem dX12_goesOn_49 : decode cX12_goesOn 49 = .ok (.iadd, 1) := by decide +kernel
theorem dX12_goesOn_50 : decode cX12_goesOn 50 = .ok (.iload_n 3, 1) := by decide +kernel
theorem dX12_goesOn_51 : decode cX12_goesOn 51 = .ok (.iadd, 1) := by decide +kernel
theorem dX12_goesOn_52 : decode cX12_goesOn 52 = .ok (.aload_n 0, 1) := by decide +kernel
theorem dX12_goesOn_53 : decode cX12_goesOn 53 = .ok (.getfield 137, 3) := by decide +kernel
theorem dX12_goesOn_56 : decode cX12_goesOn 56 = .ok (.iload_n 3, 1) := by decide +kernel
theorem dX12_goesOn_57 : decode cX12_goesOn 57 = .ok (.iaload, 1) := by decide +kernel
theorem dX12_goesOn_58 : decode cX12_goesOn 58 = .ok (.iastore, 1) := by decide +kernel
theorem dX12_goesOn_59 : decode cX12_goesOn 59 = .ok (.iinc 3 1, 3) := by decide +kernel
theorem dX12_goesOn_62 : decode cX12_goesOn 62 = .ok (.goto (-30), 3) := by decide +kernel
theorem dX12_goesOn_65 : decode cX12_goesOn 65 = .ok (.aload_n 0, 1) := by decide +kernel
theorem dX12_goesOn_66 : decode cX12_goesOn 66 = .ok (.dup, 1) := by decide +kernel
theorem dX12_goesOn_67 : decode cX12_goesOn 67 = .ok (.getfield 318, 3) := by decide +kernel
theorem dX12_goesOn_70 : decode cX12_goesOn 70 = .ok (.iconst 1, 1) := by decide +kernel
theorem dX12_goesOn_71 : decode cX12_goesOn 71 = .ok (.iadd, 1) := by decide +kernel
theorem dX12_goesOn_72 : decode cX12_goesOn 72 = .ok (.putfield 318, 3) := by decide +kernel
theorem dX12_goesOn_75 : decode cX12_goesOn 75 = .ok (.return_, 1) := by decide +kernel
theorem dX12_goesOn_76 : decode cX12_goesOn 76 = .ok (.iconst 0, 1) := by decide +kernel
theorem dX12_goesOn_77 : decode cX12_goesOn 77 = .ok (.istore_n 3, 1) := by decide +kernel
theorem dX12_goesOn_78 : decode cX12_goesOn 78 = .ok (.iload_n 3, 1) := by decide +kernel
theorem dX12_goesOn_79 : decode cX12_goesOn 79 = .ok (.aload_n 0, 1) := by decide +kernel
theorem dX12_goesOn_80 : decode cX12_goesOn 80 = .ok (.invokevirtual 309, 3) := by decide +kernel
theorem dX12_goesOn_83 : decode cX12_goesOn 83 = .ok (.if_icmp .ge 53, 3) := by decide +kernel
theorem dX12_goesOn_86 : decode cX12_goesOn 86 = .ok (.iload_n 2, 1) := by decide +kernel
theorem dX12_goesOn_87 : decode cX12_goesOn 87 = .ok (.iload_n 3, 1) := by decide +kernel
theorem dX12_goesOn_88 : decode cX12_goesOn 88 = .ok (.ishr, 1) := by decide +kernel
theorem dX12_goesOn_89 : decode cX12_goesOn 89 = .ok (.iconst 1, 1) := by decide +kernel
theorem dX12_goesOn_90 : decode cX12_goesOn 90 = .ok (.iand, 1) := by decide +kernel
theorem dX12_goesOn_91 : decode cX12_goesOn 91 = .ok (.ifCond .ne 39, 3) := by decide +kernel
theorem dX12_goesOn_94 : decode cX12_goesOn 94 = .ok (.aload_n 0, 1) := by decide +kernel
theorem dX12_goesOn_95 : decode cX12_goesOn 95 = .ok (.aload_n 0, 1) := by decide +kernel
theorem dX12_goesOn_96 : decode cX12_goesOn 96 = .ok (.getfield 137, 3) := by decide +kernel
theorem dX12_goesOn_99 : decode cX12_goesOn 99 = .ok (.iload_n 1, 1) := by decide +kernel
theorem dX12_goesOn_100 : decode cX12_goesOn 100 = .ok (.iconst 1, 1) := by decide +kernel
theorem dX12_goesOn_101 : decode cX12_goesOn 101 = .ok (.isub, 1) := by decide +kernel
theorem dX12_goesOn_102 : decode cX12_goesOn 102 = .ok (.iaload, 1) := by decide +kernel
theorem dX12_goesOn_103 : decode cX12_goesOn 103 = .ok (.iload_n 3, 1) := by decide +kernel
theorem dX12_goesOn_104 : decode cX12_goesOn 104 = .ok (.iconst 0, 1) := by decide +kernel
theorem dX12_goesOn_105 : decode cX12_goesOn 105 = .ok (.invokevirtual 324, 3) := by decide +kernel
theorem dX12_goesOn_108 : decode cX12_goesOn 108 = .ok (.ifCond .le 22, 3) := by decide +kernel
theorem dX12_goesOn_111 : decode cX12_goesOn 111 = .ok (.aload_n 0, 1) := by decide +kernel
theorem dX12_goesOn_112 : decode cX12_goesOn 112 = .ok (.getfield 137, 3) := by decide +kernel
theorem dX12_goesOn_115 : decode cX12_goesOn 115 = .ok (.iload_n 1, 1) := by decide +kernel
theorem dX12_goesOn_116 : decode cX12_goesOn 116 = .ok (.iload_n 3, 1) := by decide +kernel
theorem dX12_goesOn_117 : decode cX12_goesOn 117 = .ok (.iastore, 1) := by decide +kernel
theorem dX12_goesOn_118 : decode cX12_goesOn 118 = .ok (.aload_n 0, 1) := by decide +kernel
theorem dX12_goesOn_119 : decode cX12_goesOn 119 = .ok (.iload_n 1, 1) := by decide +kernel
theorem dX12_goesOn_120 : decode cX12_goesOn 120 = .ok (.iconst 1, 1) := by decide +kernel
theorem dX12_goesOn_121 : decode cX12_goesOn 121 = .ok (.iadd, 1) := by decide +kernel
theorem dX12_goesOn_122 : decode cX12_goesOn 122 = .ok (.iload_n 2, 1) := by decide +kernel
theorem dX12_goesOn_123 : decode cX12_goesOn 123 = .ok (.iconst 1, 1) := by decide +kernel
theorem dX12_goesOn_124 : decode cX12_goesOn 124 = .ok (.iload_n 3, 1) := by decide +kernel
theorem dX12_goesOn_125 : decode cX12_goesOn 125 = .ok (.ishl, 1) := by decide +kernel
theorem dX12_goesOn_126 : decode cX12_goesOn 126 = .ok (.ior, 1) := by decide +kernel
theorem dX12_goesOn_127 : decode cX12_goesOn 127 = .ok (.invokevirtual 321, 3) := by decide +kernel
theorem dX12_goesOn_130 : decode cX12_goesOn 130 = .ok (.iinc 3 1, 3) := by decide +kernel
theorem dX12_goesOn_133 : decode cX12_goesOn 133 = .ok (.goto (-55), 3) := by decide +kernel
theorem dX12_goesOn_136 : decode cX12_goesOn 136 = .ok (.return_, 1) := by decide +kernel
theorem dX12_isPath_0 : decode cX12_isPath 0 = .ok (.iload_n 1, 1) := by decide +kernel
theorem dX12_isPath_1 : decode cX12_isPath 1 = .ok (.ifCond .lt 15, 3) := by decide +kernel
theorem dX12_isPath_4 : decode cX12_isPath 4 = .ok (.iload_n 1, 1) := by decide +kernel
theorem dX12_isPath_5 : decode cX12_isPath 5 = .ok (.aload_n 0, 1) := by decide +kernel
theorem dX12_isPath_6 : decode cX12_isPath 6 = .ok (.getfield 318, 3) := by decide +kernel
theorem dX12_isPath_9 : decode cX12_isPath 9 = .ok (.if_icmp .ge 7, 3) := by decide +kernel
theorem dX12_isPath_12 : decode cX12_isPath 12 = .ok (.iconst 1, 1) := by decide +kernel
theorem dX12_isPath_13 : decode cX12_isPath 13 = .ok (.goto 4, 3) := by decide +kernel
theorem dX12_isPath_16 : decode cX12_isPath 16 = .ok (.iconst 0, 1) := by decide +kernel
theorem dX12_isPath_17 : decode cX12_isPath 17 = .ok (.ireturn, 1) := by decide +kernel
theorem dX12_lengthOf_0 : decode cX12_lengthOf 0 = .ok (.aload_n 0, 1) := by decide +kernel
theorem dX12_lengthOf_1 : decode cX12_lengthOf 1 = .ok (.getfield 134, 3) := by decide +kernel
theorem dX12_lengthOf_4 : decode cX12_lengthOf 4 = .ok (.bipush 8, 2) := by decide +kernel
theorem dX12_lengthOf_6 : decode cX12_lengthOf 6 = .ok (.iload_n 1, 1) := by decide +kernel
theorem dX12_lengthOf_7 : decode cX12_lengthOf 7 = .ok (.imul, 1) := by decide +kernel
theorem dX12_lengthOf_8 : decode cX12_lengthOf 8 = .ok (.iaload, 1) := by decide +kernel
theorem dX12_lengthOf_9 : decode cX12_lengthOf 9 = .ok (.ireturn, 1) := by decide +kernel
theorem dX12_stationOf_0 : decode cX12_stationOf 0 = .ok (.aload_n 0, 1) := by decide +kernel
theorem dX12_stationOf_1 : decode cX12_stationOf 1 = .ok (.getfield 134, 3) := by decide +kernel
theorem dX12_stationOf_4 : decode cX12_stationOf 4 = .ok (.bipush 8, 2) := by decide +kernel
theorem dX12_stationOf_6 : decode cX12_stationOf 6 = .ok (.iload_n 1, 1) := by decide +kernel
theorem dX12_stationOf_7 : decode cX12_stationOf 7 = .ok (.imul, 1) := by decide +kernel
theorem dX12_stationOf_8 : decode cX12_stationOf 8 = .ok (.iconst 1, 1) := by decide +kernel
theorem dX12_stationOf_9 : decode cX12_stationOf 9 = .ok (.iadd, 1) := by decide +kernel
theorem dX12_stationOf_10 : decode cX12_stationOf 10 = .ok (.iload_n 2, 1) := by decide +kernel
theorem dX12_stationOf_11 : decode cX12_stationOf 11 = .ok (.iadd, 1) := by decide +kernel
theorem dX12_stationOf_12 : decode cX12_stationOf 12 = .ok (.iaload, 1) := by decide +kernel
theorem dX12_stationOf_13 : decode cX12_stationOf 13 = .ok (.ireturn, 1) := by decide +kernel
theorem dX12_goesWay_0 : decode cX12_goesWay 0 = .ok (.aload_n 0, 1) := by decide +kernel
theorem dX12_goesWay_1 : decode cX12_goesWay 1 = .ok (.iload_n 2, 1) := by decide +kernel
theorem dX12_goesWay_2 : decode cX12_goesWay 2 = .ok (.iload_n 3, 1) := by decide +kernel
theorem dX12_goesWay_3 : decode cX12_goesWay 3 = .ok (.iconst 0, 1) := by decide +kernel
theorem dX12_goesWay_4 : decode cX12_goesWay 4 = .ok (.invokevirtual 324, 3) := by decide +kernel
theorem dX12_goesWay_7 : decode cX12_goesWay 7 = .ok (.istore 4, 2) := by decide +kernel
theorem dX12_goesWay_9 : decode cX12_goesWay 9 = .ok (.aload_n 0, 1) := by decide +kernel
theorem dX12_goesWay_10 : decode cX12_goesWay 10 = .ok (.iload_n 1, 1) := by decide +kernel
theorem dX12_goesWay_11 : decode cX12_goesWay 11 = .ok (.iconst 0, 1) := by decide +kernel
theorem dX12_goesWay_12 : decode cX12_goesWay 12 = .ok (.invokevirtual 315, 3) := by decide +kernel
theorem dX12_goesWay_15 : decode cX12_goesWay 15 = .ok (.istore 5, 2) := by decide +kernel
theorem dX12_goesWay_17 : decode cX12_goesWay 17 = .ok (.aload_n 0, 1) := by decide +kernel
theorem dX12_goesWay_18 : decode cX12_goesWay 18 = .ok (.iload_n 1, 1) := by decide +kernel
theorem dX12_goesWay_19 : decode cX12_goesWay 19 = .ok (.iconst 2, 1) := by decide +kernel
theorem dX12_goesWay_20 : decode cX12_goesWay 20 = .ok (.invokevirtual 315, 3) := by decide +kernel
theorem dX12_goesWay_23 : decode cX12_goesWay 23 = .ok (.iload 4, 2) := by decide +kernel
theorem dX12_goesWay_25 : decode cX12_goesWay 25 = .ok (.imul, 1) := by decide +kernel
theorem dX12_goesWay_26 : decode cX12_goesWay 26 = .ok (.bipush 10, 2) := by decide +kernel
theorem dX12_goesWay_28 : decode cX12_goesWay 28 = .ok (.idiv, 1) := by decide +kernel
theorem dX12_goesWay_29 : decode cX12_goesWay 29 = .ok (.istore 6, 2) := by decide +kernel
theorem dX12_goesWay_31 : decode cX12_goesWay 31 = .ok (.iload 5, 2) := by decide +kernel
theorem dX12_goesWay_33 : decode cX12_goesWay 33 = .ok (.iconst 4, 1) := by decide +kernel
theorem dX12_goesWay_34 : decode cX12_goesWay 34 = .ok (.if_icmp .eq 11, 3) := by decide +kernel
theorem dX12_goesWay_37 : decode cX12_goesWay 37 = .ok (.aload_n 0, 1) := by decide +kernel
theorem dX12_goesWay_38 : decode cX12_goesWay 38 = .ok (.iload_n 1, 1) := by decide +kernel
theorem dX12_goesWay_39 : decode cX12_goesWay 39 = .ok (.invokevirtual 327, 3) := by decide +kernel
theorem dX12_goesWay_42 : decode cX12_goesWay 42 = .ok (.ifCond .eq 10, 3) := by decide +kernel
theorem dX12_goesWay_45 : decode cX12_goesWay 45 = .ok (.iload 6, 2) := by decide +kernel
theorem dX12_goesWay_47 : decode cX12_goesWay 47 = .ok (.iconst 2, 1) := by decide +kernel
theorem dX12_goesWay_48 : decode cX12_goesWay 48 = .ok (.idiv, 1) := by decide +kernel
theorem dX12_goesWay_49 : decode cX12_goesWay 49 = .ok (.goto 5, 3) := by decide +kernel
theorem dX12_goesWay_52 : decode cX12_goesWay 52 = .ok (.iload 6, 2) := by decide +kernel
theorem dX12_goesWay_54 : decode cX12_goesWay 54 = .ok (.istore 6, 2) := by decide +kernel
theorem dX12_goesWay_56 : decode cX12_goesWay 56 = .ok (.iload 6, 2) := by decide +kernel
theorem dX12_goesWay_58 : decode cX12_goesWay 58 = .ok (.iload 5, 2) := by decide +kernel
theorem dX12_goesWay_60 : decode cX12_goesWay 60 = .ok (.iconst 1, 1) := by decide +kernel
theorem dX12_goesWay_61 : decode cX12_goesWay 61 = .ok (.if_icmp .ne 7, 3) := by decide +kernel
theorem dX12_goesWay_64 : decode cX12_goesWay 64 = .ok (.iconst 0, 1) := by decide +kernel
theorem dX12_goesWay_65 : decode cX12_goesWay 65 = .ok (.goto 10, 3) := by decide +kernel
theorem dX12_goesWay_68 : decode cX12_goesWay 68 = .ok (.aload_n 0, 1) := by decide +kernel
theorem dX12_goesWay_69 : decode cX12_goesWay 69 = .ok (.iload_n 2, 1) := by decide +kernel
theorem dX12_goesWay_70 : decode cX12_goesWay 70 = .ok (.iload_n 3, 1) := by decide +kernel
theorem dX12_goesWay_71 : decode cX12_goesWay 71 = .ok (.iconst 1, 1) := by decide +kernel
theorem dX12_goesWay_72 : decode cX12_goesWay 72 = .ok (.invokevirtual 324, 3) := by decide +kernel
theorem dX12_goesWay_75 : decode cX12_goesWay 75 = .ok (.iadd, 1) := by decide +kernel
theorem dX12_goesWay_76 : decode cX12_goesWay 76 = .ok (.istore 6, 2) := by decide +kernel
theorem dX12_goesWay_78 : decode cX12_goesWay 78 = .ok (.iload 6, 2) := by decide +kernel
theorem dX12_goesWay_80 : decode cX12_goesWay 80 = .ok (.aload_n 0, 1) := by decide +kernel
theorem dX12_goesWay_81 : decode cX12_goesWay 81 = .ok (.getfield 330, 3) := by decide +kernel
theorem dX12_goesWay_84 : decode cX12_goesWay 84 = .ok (.if_icmp .le 10, 3) := by decide +kernel
theorem dX12_goesWay_87 : decode cX12_goesWay 87 = .ok (.aload_n 0, 1) := by decide +kernel
theorem dX12_goesWay_88 : decode cX12_goesWay 88 = .ok (.getfield 330, 3) := by decide +kernel
theorem dX12_goesWay_91 : decode cX12_goesWay 91 = .ok (.goto 5, 3) := by decide +kernel
theorem dX12_goesWay_94 : decode cX12_goesWay 94 = .ok (.iload 6, 2) := by decide +kernel
theorem dX12_goesWay_96 : decode cX12_goesWay 96 = .ok (.istore 6, 2) := by decide +kernel
theorem dX12_goesWay_98 : decode cX12_goesWay 98 = .ok (.aload_n 0, 1) := by decide +kernel
theorem dX12_goesWay_99 : decode cX12_goesWay 99 = .ok (.dup, 1) := by decide +kernel
theorem dX12_goesWay_100 : decode cX12_goesWay 100 = .ok (.getfield 330, 3) := by decide +kernel
theorem dX12_goesWay_103 : decode cX12_goesWay 103 = .ok (.iload 6, 2) := by decide +kernel
theorem dX12_goesWay_105 : decode cX12_goesWay 105 = .ok (.isub, 1) := by decide +kernel
theorem dX12_goesWay_106 : decode cX12_goesWay 106 = .ok (.putfield 330, 3) := by decide +kernel
theorem dX12_goesWay_109 : decode cX12_goesWay 109 = .ok (.aload_n 0, 1) := by decide +kernel
theorem dX12_goesWay_110 : decode cX12_goesWay 110 = .ok (.dup, 1) := by decide +kernel
theorem dX12_goesWay_111 : decode cX12_goesWay 111 = .ok (.getfield 333, 3) := by decide +kernel
theorem dX12_goesWay_114 : decode cX12_goesWay 114 = .ok (.iload 6, 2) := by decide +kernel
theorem dX12_goesWay_116 : decode cX12_goesWay 116 = .ok (.iadd, 1) := by decide +kernel
theorem dX12_goesWay_117 : decode cX12_goesWay 117 = .ok (.putfield 333, 3) := by decide +kernel
theorem dX12_goesWay_120 : decode cX12_goesWay 120 = .ok (.aload_n 0, 1) := by decide +kernel
theorem dX12_goesWay_121 : decode cX12_goesWay 121 = .ok (.dup, 1) := by decide +kernel
theorem dX12_goesWay_122 : decode cX12_goesWay 122 = .ok (.getfield 336, 3) := by decide +kernel
theorem dX12_goesWay_125 : decode cX12_goesWay 125 = .ok (.iload 5, 2) := by decide +kernel
theorem dX12_goesWay_127 : decode cX12_goesWay 127 = .ok (.iconst 2, 1) := by decide +kernel
theorem dX12_goesWay_128 : decode cX12_goesWay 128 = .ok (.if_icmp .ne 13, 3) := by decide +kernel
theorem dX12_goesWay_131 : decode cX12_goesWay 131 = .ok (.iload 4, 2) := by decide +kernel
theorem dX12_goesWay_133 : decode cX12_goesWay 133 = .ok (.iload 4, 2) := by decide +kernel
theorem dX12_goesWay_135 : decode cX12_goesWay 135 = .ok (.iconst 2, 1) := by decide +kernel
theorem dX12_goesWay_136 : decode cX12_goesWay 136 = .ok (.idiv, 1) := by decide +kernel
theorem dX12_goesWay_137 : decode cX12_goesWay 137 = .ok (.iadd, 1) := by decide +kernel
theorem dX12_goesWay_138 : decode cX12_goesWay 138 = .ok (.goto 5, 3) := by decide +kernel
theorem dX12_goesWay_141 : decode cX12_goesWay 141 = .ok (.iload 4, 2) := by decide +kernel
theorem dX12_goesWay_143 : decode cX12_goesWay 143 = .ok (.iadd, 1) := by decide +kernel
theorem dX12_goesWay_144 : decode cX12_goesWay 144 = .ok (.putfield 336, 3) := by decide +kernel
theorem dX12_goesWay_147 : decode cX12_goesWay 147 = .ok (.return_, 1) := by decide +kernel
theorem dX12_drinksAt_0 : decode cX12_drinksAt 0 = .ok (.aload_n 0, 1) := by decide +kernel
theorem dX12_drinksAt_1 : decode cX12_drinksAt 1 = .ok (.iload_n 1, 1) := by decide +kernel
theorem dX12_drinksAt_2 : decode cX12_drinksAt 2 = .ok (.iconst 3, 1) := by decide +kernel
theorem dX12_drinksAt_3 : decode cX12_drinksAt 3 = .ok (.invokevirtual 315, 3) := by decide +kernel
theorem dX12_drinksAt_6 : decode cX12_drinksAt 6 = .ok (.istore_n 3, 1) := by decide +kernel
theorem dX12_drinksAt_7 : decode cX12_drinksAt 7 = .ok (.aload_n 0, 1) := by decide +kernel
theorem dX12_drinksAt_8 : decode cX12_drinksAt 8 = .ok (.getfield 97, 3) := by decide +kernel
theorem dX12_drinksAt_11 : decode cX12_drinksAt 11 = .ok (.bipush 6, 2) := by decide +kernel
theorem dX12_drinksAt_13 : decode cX12_drinksAt 13 = .ok (.iaload, 1) := by decide +kernel
theorem dX12_drinksAt_14 : decode cX12_drinksAt 14 = .ok (.ifCond .lt 75, 3) := by decide +kernel
theorem dX12_drinksAt_17 : decode cX12_drinksAt 17 = .ok (.aload_n 0, 1) := by decide +kernel
theorem dX12_drinksAt_18 : decode cX12_drinksAt 18 = .ok (.getfield 121, 3) := by decide +kernel
theorem dX12_drinksAt_21 : decode cX12_drinksAt 21 = .ok (.iconst 0, 1) := by decide +kernel
theorem dX12_drinksAt_22 : decode cX12_drinksAt 22 = .ok (.aload_n 0, 1) := by decide +kernel
theorem dX12_drinksAt_23 : decode cX12_drinksAt 23 = .ok (.iload_n 1, 1) := by decide +kernel
theorem dX12_drinksAt_24 : decode cX12_drinksAt 24 = .ok (.iconst 3, 1) := by decide +kernel
theorem dX12_drinksAt_25 : decode cX12_drinksAt 25 = .ok (.invokevirtual 315, 3) := by decide +kernel
theorem dX12_drinksAt_28 : decode cX12_drinksAt 28 = .ok (.iastore, 1) := by decide +kernel
theorem dX12_drinksAt_29 : decode cX12_drinksAt 29 = .ok (.aload_n 0, 1) := by decide +kernel
theorem dX12_drinksAt_30 : decode cX12_drinksAt 30 = .ok (.getfield 121, 3) := by decide +kernel
theorem dX12_drinksAt_33 : decode cX12_drinksAt 33 = .ok (.iconst 1, 1) := by decide +kernel
theorem dX12_drinksAt_34 : decode cX12_drinksAt 34 = .ok (.aload_n 0, 1) := by decide +kernel
theorem dX12_drinksAt_35 : decode cX12_drinksAt 35 = .ok (.getfield 330, 3) := by decide +kernel
theorem dX12_drinksAt_38 : decode cX12_drinksAt 38 = .ok (.iastore, 1) := by decide +kernel
theorem dX12_drinksAt_39 : decode cX12_drinksAt 39 = .ok (.aload_n 0, 1) := by decide +kernel
theorem dX12_drinksAt_40 : decode cX12_drinksAt 40 = .ok (.getfield 121, 3) := by decide +kernel
theorem dX12_drinksAt_43 : decode cX12_drinksAt 43 = .ok (.iconst 2, 1) := by decide +kernel
theorem dX12_drinksAt_44 : decode cX12_drinksAt 44 = .ok (.aload_n 0, 1) := by decide +kernel
theorem dX12_drinksAt_45 : decode cX12_drinksAt 45 = .ok (.getfield 97, 3) := by decide +kernel
theorem dX12_drinksAt_48 : decode cX12_drinksAt 48 = .ok (.bipush 8, 2) := by decide +kernel
theorem dX12_drinksAt_50 : decode cX12_drinksAt 50 = .ok (.iconst 2, 1) := by decide +kernel
theorem dX12_drinksAt_51 : decode cX12_drinksAt 51 = .ok (.iload_n 2, 1) := by decide +kernel
theorem dX12_drinksAt_52 : decode cX12_drinksAt 52 = .ok (.imul, 1) := by decide +kernel
theorem dX12_drinksAt_53 : decode cX12_drinksAt 53 = .ok (.iadd, 1) := by decide +kernel
theorem dX12_drinksAt_54 : decode cX12_drinksAt 54 = .ok (.iaload, 1) := by decide +kernel
theorem dX12_drinksAt_55 : decode cX12_drinksAt 55 = .ok (.iastore, 1) := by decide +kernel
theorem dX12_drinksAt_56 : decode cX12_drinksAt 56 = .ok (.aload_n 0, 1) := by decide +kernel
theorem dX12_drinksAt_57 : decode cX12_drinksAt 57 = .ok (.getfield 121, 3) := by decide +kernel
theorem dX12_drinksAt_60 : decode cX12_drinksAt 60 = .ok (.iconst 3, 1) := by decide +kernel
theorem dX12_drinksAt_61 : decode cX12_drinksAt 61 = .ok (.aload_n 0, 1) := by decide +kernel
theorem dX12_drinksAt_62 : decode cX12_drinksAt 62 = .ok (.getfield 336, 3) := by decide +kernel
theorem dX12_drinksAt_65 : decode cX12_drinksAt 65 = .ok (.iastore, 1) := by decide +kernel
theorem dX12_drinksAt_66 : decode cX12_drinksAt 66 = .ok (.aload_n 0, 1) := by decide +kernel
theorem dX12_drinksAt_67 : decode cX12_drinksAt 67 = .ok (.getfield 121, 3) := by decide +kernel
theorem dX12_drinksAt_70 : decode cX12_drinksAt 70 = .ok (.iconst 4, 1) := by decide +kernel
theorem dX12_drinksAt_71 : decode cX12_drinksAt 71 = .ok (.aload_n 0, 1) := by decide +kernel
theorem dX12_drinksAt_72 : decode cX12_drinksAt 72 = .ok (.iload_n 1, 1) := by decide +kernel
theorem dX12_drinksAt_73 : decode cX12_drinksAt 73 = .ok (.invokevirtual 339, 3) := by decide +kernel
theorem dX12_drinksAt_76 : decode cX12_drinksAt 76 = .ok (.iastore, 1) := by decide +kernel
theorem dX12_drinksAt_77 : decode cX12_drinksAt 77 = .ok (.aload_n 0, 1) := by decide +kernel
theorem dX12_drinksAt_78 : decode cX12_drinksAt 78 = .ok (.aload_n 0, 1) := by decide +kernel
theorem dX12_drinksAt_79 : decode cX12_drinksAt 79 = .ok (.getfield 97, 3) := by decide +kernel
theorem dX12_drinksAt_82 : decode cX12_drinksAt 82 = .ok (.bipush 6, 2) := by decide +kernel
theorem dX12_drinksAt_84 : decode cX12_drinksAt 84 = .ok (.iaload, 1) := by decide +kernel
theorem dX12_drinksAt_85 : decode cX12_drinksAt 85 = .ok (.invokevirtual 342, 3) := by decide +kernel
theorem dX12_drinksAt_88 : decode cX12_drinksAt 88 = .ok (.istore_n 3, 1) := by decide +kernel
theorem dX12_drinksAt_89 : decode cX12_drinksAt 89 = .ok (.aload_n 0, 1) := by decide +kernel
theorem dX12_drinksAt_90 : decode cX12_drinksAt 90 = .ok (.iload_n 1, 1) := by decide +kernel
theorem dX12_drinksAt_91 : decode cX12_drinksAt 91 = .ok (.iconst 0, 1) := by decide +kernel
theorem dX12_drinksAt_92 : decode cX12_drinksAt 92 = .ok (.invokevirtual 315, 3) := by decide +kernel
theorem dX12_drinksAt_95 : decode cX12_drinksAt 95 = .ok (.iconst 3, 1) := by decide +kernel
theorem dX12_drinksAt_96 : decode cX12_drinksAt 96 = .ok (.if_icmp .ne 11, 3) := by decide +kernel
theorem dX12_drinksAt_99 : decode cX12_drinksAt 99 = .ok (.aload_n 0, 1) := by decide +kernel
theorem dX12_drinksAt_100 : decode cX12_drinksAt 100 = .ok (.iload_n 1, 1) := by decide +kernel
theorem dX12_drinksAt_101 : decode cX12_drinksAt 101 = .ok (.invokevirtual 339, 3) := by decide +kernel
theorem dX12_drinksAt_104 : decode cX12_drinksAt 104 = .ok (.ifCond .gt 7, 3) := by decide +kernel
theorem dX12_drinksAt_107 : decode cX12_drinksAt 107 = .ok (.iload_n 3, 1) := by decide +kernel
theorem dX12_drinksAt_108 : decode cX12_drinksAt 108 = .ok (.ifCond .ge 7, 3) := by decide +kernel
theorem dX12_drinksAt_111 : decode cX12_drinksAt 111 = .ok (.iconst 0, 1) := by decide +kernel
theorem dX12_drinksAt_112 : decode cX12_drinksAt 112 = .ok (.goto 4, 3) := by decide +kernel
theorem dX12_drinksAt_115 : decode cX12_drinksAt 115 = .ok (.iload_n 3, 1) := by decide +kernel
theorem dX12_drinksAt_116 : decode cX12_drinksAt 116 = .ok (.istore_n 3, 1) := by decide +kernel
theorem dX12_drinksAt_117 : decode cX12_drinksAt 117 = .ok (.iload_n 3, 1) := by decide +kernel
theorem dX12_drinksAt_118 : decode cX12_drinksAt 118 = .ok (.aload_n 0, 1) := by decide +kernel
theorem dX12_drinksAt_119 : decode cX12_drinksAt 119 = .ok (.getfield 330, 3) := by decide +kernel
theorem dX12_drinksAt_122 : decode cX12_drinksAt 122 = .ok (.if_icmp .le 10, 3) := by decide +kernel
theorem dX12_drinksAt_125 : decode cX12_drinksAt 125 = .ok (.aload_n 0, 1) := by decide +kernel
theorem dX12_drinksAt_126 : decode cX12_drinksAt 126 = .ok (.getfield 330, 3) := by decide +kernel
theorem dX12_drinksAt_129 : decode cX12_drinksAt 129 = .ok (.goto 4, 3) := by decide +kernel
theorem dX12_drinksAt_132 : decode cX12_drinksAt 132 = .ok (.iload_n 3, 1) := by decide +kernel
theorem dX12_drinksAt_133 : decode cX12_drinksAt 133 = .ok (.istore_n 3, 1) := by decide +kernel
theorem dX12_drinksAt_134 : decode cX12_drinksAt 134 = .ok (.aload_n 0, 1) := by decide +kernel
theorem dX12_drinksAt_135 : decode cX12_drinksAt 135 = .ok (.iload_n 1, 1) := by decide +kernel
theorem dX12_drinksAt_136 : decode cX12_drinksAt 136 = .ok (.iconst 0, 1) := by decide +kernel
theorem dX12_drinksAt_137 : decode cX12_drinksAt 137 = .ok (.invokevirtual 315, 3) := by decide +kernel
theorem dX12_drinksAt_140 : decode cX12_drinksAt 140 = .ok (.iconst 1, 1) := by decide +kernel
theorem dX12_drinksAt_141 : decode cX12_drinksAt 141 = .ok (.if_icmp .ne 9, 3) := by decide +kernel
theorem dX12_drinksAt_144 : decode cX12_drinksAt 144 = .ok (.iconst 2, 1) := by decide +kernel
theorem dX12_drinksAt_145 : decode cX12_drinksAt 145 = .ok (.iload_n 3, 1) := by decide +kernel
theorem dX12_drinksAt_146 : decode cX12_drinksAt 146 = .ok (.imul, 1) := by decide +kernel
theorem dX12_drinksAt_147 : decode cX12_drinksAt 147 = .ok (.goto 4, 3) := by decide +kernel
theorem dX12_drinksAt_150 : decode cX12_drinksAt 150 = .ok (.iload_n 3, 1) := by decide +kernel
theorem dX12_drinksAt_151 : decode cX12_drinksAt 151 = .ok (.istore_n 3, 1) := by decide +kernel
theorem dX12_drinksAt_152 : decode cX12_drinksAt 152 = .ok (.iload_n 3, 1) := by decide +kernel
theorem dX12_drinksAt_153 : decode cX12_drinksAt 153 = .ok (.aload_n 0, 1) := by decide +kernel
theorem dX12_drinksAt_154 : decode cX12_drinksAt 154 = .ok (.getfield 330, 3) := by decide +kernel
theorem dX12_drinksAt_157 : decode cX12_drinksAt 157 = .ok (.if_icmp .le 10, 3) := by decide +kernel
theorem dX12_drinksAt_160 : decode cX12_drinksAt 160 = .ok (.aload_n 0, 1) := by decide +kernel
theorem dX12_drinksAt_161 : decode cX12_drinksAt 161 = .ok (.getfield 330, 3) := by decide +kernel
theorem dX12_drinksAt_164 : decode cX12_drinksAt 164 = .ok (.goto 4, 3) := by decide +kernel
theorem dX12_drinksAt_167 : decode cX12_drinksAt 167 = .ok (.iload_n 3, 1) := by decide +kernel
theorem dX12_drinksAt_168 : decode cX12_drinksAt 168 = .ok (.istore_n 3, 1) := by decide +kernel
theorem dX12_drinksAt_169 : decode cX12_drinksAt 169 = .ok (.aload_n 0, 1) := by decide +kernel
theorem dX12_drinksAt_170 : decode cX12_drinksAt 170 = .ok (.dup, 1) := by decide +kernel
theorem dX12_drinksAt_171 : decode cX12_drinksAt 171 = .ok (.getfield 330, 3) := by decide +kernel
theorem dX12_drinksAt_174 : decode cX12_drinksAt 174 = .ok (.iload_n 3, 1) := by decide +kernel
theorem dX12_drinksAt_175 : decode cX12_drinksAt 175 = .ok (.isub, 1) := by decide +kernel
theorem dX12_drinksAt_176 : decode cX12_drinksAt 176 = .ok (.putfield 330, 3) := by decide +kernel
theorem dX12_drinksAt_179 : decode cX12_drinksAt 179 = .ok (.aload_n 0, 1) := by decide +kernel
theorem dX12_drinksAt_180 : decode cX12_drinksAt 180 = .ok (.dup, 1) := by decide +kernel
theorem dX12_drinksAt_181 : decode cX12_drinksAt 181 = .ok (.getfield 345, 3) := by decide +kernel
theorem dX12_drinksAt_184 : decode cX12_drinksAt 184 = .ok (.iload_n 3, 1) := by decide +kernel
theorem dX12_drinksAt_185 : decode cX12_drinksAt 185 = .ok (.iadd, 1) := by decide +kernel
theorem dX12_drinksAt_186 : decode cX12_drinksAt 186 = .ok (.putfield 345, 3) := by decide +kernel
theorem dX12_drinksAt_189 : decode cX12_drinksAt 189 = .ok (.iload_n 3, 1) := by decide +kernel
theorem dX12_drinksAt_190 : decode cX12_drinksAt 190 = .ok (.ireturn, 1) := by decide +kernel
theorem dX12_starts_0 : decode cX12_starts 0 = .ok (.aload_n 0, 1) := by decide +kernel
theorem dX12_starts_1 : decode cX12_starts 1 = .ok (.iload_n 1, 1) := by decide +kernel
theorem dX12_starts_2 : decode cX12_starts 2 = .ok (.putfield 330, 3) := by decide +kernel
theorem dX12_starts_5 : decode cX12_starts 5 = .ok (.aload_n 0, 1) := by decide +kernel
theorem dX12_starts_6 : decode cX12_starts 6 = .ok (.iconst 0, 1) := by decide +kernel
theorem dX12_starts_7 : decode cX12_starts 7 = .ok (.putfield 336, 3) := by decide +kernel
theorem dX12_starts_10 : decode cX12_starts 10 = .ok (.aload_n 0, 1) := by decide +kernel
theorem dX12_starts_11 : decode cX12_starts 11 = .ok (.iconst 0, 1) := by decide +kernel
theorem dX12_starts_12 : decode cX12_starts 12 = .ok (.putfield 345, 3) := by decide +kernel
theorem dX12_starts_15 : decode cX12_starts 15 = .ok (.aload_n 0, 1) := by decide +kernel
theorem dX12_starts_16 : decode cX12_starts 16 = .ok (.iconst 0, 1) := by decide +kernel
theorem dX12_starts_17 : decode cX12_starts 17 = .ok (.putfield 333, 3) := by decide +kernel
theorem dX12_starts_20 : decode cX12_starts 20 = .ok (.return_, 1) := by decide +kernel
theorem dX12_goesTrip_0 : decode cX12_goesTrip 0 = .ok (.aload_n 0, 1) := by decide +kernel
theorem dX12_goesTrip_1 : decode cX12_goesTrip 1 = .ok (.iload_n 3, 1) := by decide +kernel
theorem dX12_goesTrip_2 : decode cX12_goesTrip 2 = .ok (.invokevirtual 348, 3) := by decide +kernel
theorem dX12_goesTrip_5 : decode cX12_goesTrip 5 = .ok (.iconst 1, 1) := by decide +kernel
theorem dX12_goesTrip_6 : decode cX12_goesTrip 6 = .ok (.istore 4, 2) := by decide +kernel
theorem dX12_goesTrip_8 : decode cX12_goesTrip 8 = .ok (.iload 4, 2) := by decide +kernel
theorem dX12_goesTrip_10 : decode cX12_goesTrip 10 = .ok (.aload_n 0, 1) := by decide +kernel
theorem dX12_goesTrip_11 : decode cX12_goesTrip 11 = .ok (.iload_n 2, 1) := by decide +kernel
theorem dX12_goesTrip_12 : decode cX12_goesTrip 12 = .ok (.invokevirtual 351, 3) := by decide +kernel
theorem dX12_goesTrip_15 : decode cX12_goesTrip 15 = .ok (.if_icmp .ge 55, 3) := by decide +kernel
theorem dX12_goesTrip_18 : decode cX12_goesTrip 18 = .ok (.aload_n 0, 1) := by decide +kernel
theorem dX12_goesTrip_19 : decode cX12_goesTrip 19 = .ok (.iload_n 1, 1) := by decide +kernel
theorem dX12_goesTrip_20 : decode cX12_goesTrip 20 = .ok (.aload_n 0, 1) := by decide +kernel
theorem dX12_goesTrip_21 : decode cX12_goesTrip 21 = .ok (.iload_n 2, 1) := by decide +kernel
theorem dX12_goesTrip_22 : decode cX12_goesTrip 22 = .ok (.iload 4, 2) := by decide +kernel
theorem dX12_goesTrip_24 : decode cX12_goesTrip 24 = .ok (.iconst 1, 1) := by decide +kernel
theorem dX12_goesTrip_25 : decode cX12_goesTrip 25 = .ok (.isub, 1) := by decide +kernel
theorem dX12_goesTrip_26 : decode cX12_goesTrip 26 = .ok (.invokevirtual 354, 3) := by decide +kernel
theorem dX12_goesTrip_29 : decode cX12_goesTrip 29 = .ok (.aload_n 0, 1) := by decide +kernel
theorem dX12_goesTrip_30 : decode cX12_goesTrip 30 = .ok (.iload_n 2, 1) := by decide +kernel
theorem dX12_goesTrip_31 : decode cX12_goesTrip 31 = .ok (.iload 4, 2) := by decide +kernel
theorem dX12_goesTrip_33 : decode cX12_goesTrip 33 = .ok (.invokevirtual 354, 3) := by decide +kernel
theorem dX12_goesTrip_36 : decode cX12_goesTrip 36 = .ok (.invokevirtual 357, 3) := by decide +kernel
theorem dX12_goesTrip_39 : decode cX12_goesTrip 39 = .ok (.iload 4, 2) := by decide +kernel
theorem dX12_goesTrip_41 : decode cX12_goesTrip 41 = .ok (.aload_n 0, 1) := by decide +kernel
theorem dX12_goesTrip_42 : decode cX12_goesTrip 42 = .ok (.iload_n 2, 1) := by decide +kernel
theorem dX12_goesTrip_43 : decode cX12_goesTrip 43 = .ok (.invokevirtual 351, 3) := by decide +kernel
theorem dX12_goesTrip_46 : decode cX12_goesTrip 46 = .ok (.iconst 1, 1) := by decide +kernel
theorem dX12_goesTrip_47 : decode cX12_goesTrip 47 = .ok (.isub, 1) := by decide +kernel
theorem dX12_goesTrip_48 : decode cX12_goesTrip 48 = .ok (.if_icmp .ge 16, 3) := by decide +kernel
theorem dX12_goesTrip_51 : decode cX12_goesTrip 51 = .ok (.aload_n 0, 1) := by decide +kernel
theorem dX12_goesTrip_52 : decode cX12_goesTrip 52 = .ok (.iload_n 1, 1) := by decide +kernel
theorem dX12_goesTrip_53 : decode cX12_goesTrip 53 = .ok (.aload_n 0, 1) := by decide +kernel
theorem dX12_goesTrip_54 : decode cX12_goesTrip 54 = .ok (.iload_n 2, 1) := by decide +kernel
theorem dX12_goesTrip_55 : decode cX12_goesTrip 55 = .ok (.iload 4, 2) := by decide +kernel
theorem dX12_goesTrip_57 : decode cX12_goesTrip 57 = .ok (.invokevirtual 354, 3) := by decide +kernel
theorem dX12_goesTrip_60 : decode cX12_goesTrip 60 = .ok (.invokevirtual 360, 3) := by decide +kernel
theorem dX12_goesTrip_63 : decode cX12_goesTrip 63 = .ok (.pop, 1) := by decide +kernel
theorem dX12_goesTrip_64 : decode cX12_goesTrip 64 = .ok (.iinc 4 1, 3) := by decide +kernel
theorem dX12_goesTrip_67 : decode cX12_goesTrip 67 = .ok (.goto (-59), 3) := by decide +kernel
theorem dX12_goesTrip_70 : decode cX12_goesTrip 70 = .ok (.return_, 1) := by decide +kernel
theorem dX12_canCarry_0 : decode cX12_canCarry 0 = .ok (.aload_n 0, 1) := by decide +kernel
theorem dX12_canCarry_1 : decode cX12_canCarry 1 = .ok (.iload_n 1, 1) := by decide +kernel
theorem dX12_canCarry_2 : decode cX12_canCarry 2 = .ok (.invokevirtual 363, 3) := by decide +kernel
theorem dX12_canCarry_5 : decode cX12_canCarry 5 = .ok (.ifCond .eq 20, 3) := by decide +kernel
theorem dX12_canCarry_8 : decode cX12_canCarry 8 = .ok (.iload_n 2, 1) := by decide +kernel
theorem dX12_canCarry_9 : decode cX12_canCarry 9 = .ok (.ifCond .lt 16, 3) := by decide +kernel
theorem dX12_canCarry_12 : decode cX12_canCarry 12 = .ok (.iload_n 2, 1) := by decide +kernel
theorem dX12_canCarry_13 : decode cX12_canCarry 13 = .ok (.aload_n 0, 1) := by decide +kernel
theorem dX12_canCarry_14 : decode cX12_canCarry 14 = .ok (.iload_n 1, 1) := by decide +kernel
theorem dX12_canCarry_15 : decode cX12_canCarry 15 = .ok (.invokevirtual 366, 3) := by decide +kernel
theorem dX12_canCarry_18 : decode cX12_canCarry 18 = .ok (.if_icmp .gt 7, 3) := by decide +kernel
theorem dX12_canCarry_21 : decode cX12_canCarry 21 = .ok (.iconst 1, 1) := by decide +kernel
theorem dX12_canCarry_22 : decode cX12_canCarry 22 = .ok (.goto 4, 3) := by decide +kernel
theorem dX12_canCarry_25 : decode cX12_canCarry 25 = .ok (.iconst 0, 1) := by decide +kernel
theorem dX12_canCarry_26 : decode cX12_canCarry 26 = .ok (.ireturn, 1) := by decide +kernel
theorem dX12_station_0 : decode cX12_station 0 = .ok (.aload_n 0, 1) := by decide +kernel
theorem dX12_station_1 : decode cX12_station 1 = .ok (.iconst 0, 1) := by decide +kernel
theorem dX12_station_2 : decode cX12_station 2 = .ok (.putfield 1, 3) := by decide +kernel
theorem dX12_station_5 : decode cX12_station 5 = .ok (.aload_n 0, 1) := by decide +kernel
theorem dX12_station_6 : decode cX12_station 6 = .ok (.iload_n 1, 1) := by decide +kernel
theorem dX12_station_7 : decode cX12_station 7 = .ok (.invokevirtual 369, 3) := by decide +kernel
theorem dX12_station_10 : decode cX12_station 10 = .ok (.ifCond .eq 12, 3) := by decide +kernel
theorem dX12_station_13 : decode cX12_station 13 = .ok (.iload_n 2, 1) := by decide +kernel
theorem dX12_station_14 : decode cX12_station 14 = .ok (.iconst 0, 1) := by decide +kernel
theorem dX12_station_15 : decode cX12_station 15 = .ok (.iconst 2, 1) := by decide +kernel
theorem dX12_station_16 : decode cX12_station 16 = .ok (.invokestatic 372, 3) := by decide +kernel
theorem dX12_station_19 : decode cX12_station 19 = .ok (.ifCond .ne 5, 3) := by decide +kernel
theorem dX12_station_22 : decode cX12_station 22 = .ok (.iconst (-1), 1) := by decide +kernel
theorem dX12_station_23 : decode cX12_station 23 = .ok (.ireturn, 1) := by decide +kernel
theorem dX12_station_24 : decode cX12_station 24 = .ok (.iload_n 2, 1) := by decide +kernel
theorem dX12_station_25 : decode cX12_station 25 = .ok (.iconst 2, 1) := by decide +kernel
theorem dX12_station_26 : decode cX12_station 26 = .ok (.if_icmp .ge 19, 3) := by decide +kernel
theorem dX12_station_29 : decode cX12_station 29 = .ok (.aload_n 0, 1) := by decide +kernel
theorem dX12_station_30 : decode cX12_station 30 = .ok (.getfield 97, 3) := by decide +kernel
theorem dX12_station_33 : decode cX12_station 33 = .ok (.bipush 8, 2) := by decide +kernel
theorem dX12_station_35 : decode cX12_station 35 = .ok (.iconst 2, 1) := by decide +kernel
theorem dX12_station_36 : decode cX12_station 36 = .ok (.iload_n 1, 1) := by decide +kernel
theorem dX12_station_37 : decode cX12_station 37 = .ok (.imul, 1) := by decide +kernel
theorem dX12_station_38 : decode cX12_station 38 = .ok (.iadd, 1) := by decide +kernel
theorem dX12_station_39 : decode cX12_station 39 = .ok (.iload_n 2, 1) := by decide +kernel
theorem dX12_station_40 : decode cX12_station 40 = .ok (.iadd, 1) := by decide +kernel
theorem dX12_station_41 : decode cX12_station 41 = .ok (.iaload, 1) := by decide +kernel
theorem dX12_station_42 : decode cX12_station 42 = .ok (.goto 12, 3) := by decide +kernel
theorem dX12_station_45 : decode cX12_station 45 = .ok (.aload_n 0, 1) := by decide +kernel
theorem dX12_station_46 : decode cX12_station 46 = .ok (.getfield 127, 3) := by decide +kernel
theorem dX12_station_49 : decode cX12_station 49 = .ok (.bipush 43, 2) := by decide +kernel
theorem dX12_station_51 : decode cX12_station 51 = .ok (.iload_n 1, 1) := by decide +kernel
theorem dX12_station_52 : decode cX12_station 52 = .ok (.iadd, 1) := by decide +kernel
theorem dX12_station_53 : decode cX12_station 53 = .ok (.iaload, 1) := by decide +kernel
theorem dX12_station_54 : decode cX12_station 54 = .ok (.ireturn, 1) := by decide +kernel
theorem dX12_way_0 : decode cX12_way 0 = .ok (.aload_n 0, 1) := by decide +kernel
theorem dX12_way_1 : decode cX12_way 1 = .ok (.iconst 0, 1) := by decide +kernel
theorem dX12_way_2 : decode cX12_way 2 = .ok (.putfield 1, 3) := by decide +kernel
theorem dX12_way_5 : decode cX12_way 5 = .ok (.aload_n 0, 1) := by decide +kernel
theorem dX12_way_6 : decode cX12_way 6 = .ok (.iload_n 1, 1) := by decide +kernel
theorem dX12_way_7 : decode cX12_way 7 = .ok (.invokevirtual 369, 3) := by decide +kernel
theorem dX12_way_10 : decode cX12_way 10 = .ok (.ifCond .eq 40, 3) := by decide +kernel
theorem dX12_way_13 : decode cX12_way 13 = .ok (.aload_n 0, 1) := by decide +kernel
theorem dX12_way_14 : decode cX12_way 14 = .ok (.iload_n 2, 1) := by decide +kernel
theorem dX12_way_15 : decode cX12_way 15 = .ok (.invokevirtual 369, 3) := by decide +kernel
theorem dX12_way_18 : decode cX12_way 18 = .ok (.ifCond .eq 32, 3) := by decide +kernel
theorem dX12_way_21 : decode cX12_way 21 = .ok (.iload_n 3, 1) := by decide +kernel
theorem dX12_way_22 : decode cX12_way 22 = .ok (.iconst 0, 1) := by decide +kernel
theorem dX12_way_23 : decode cX12_way 23 = .ok (.iconst 1, 1) := by decide +kernel
theorem dX12_way_24 : decode cX12_way 24 = .ok (.invokestatic 372, 3) := by decide +kernel
theorem dX12_way_27 : decode cX12_way 27 = .ok (.ifCond .eq 23, 3) := by decide +kernel
theorem dX12_way_30 : decode cX12_way 30 = .ok (.aload_n 0, 1) := by decide +kernel
theorem dX12_way_31 : decode cX12_way 31 = .ok (.iload_n 1, 1) := by decide +kernel
theorem dX12_way_32 : decode cX12_way 32 = .ok (.iload_n 2, 1) := by decide +kernel
theorem dX12_way_33 : decode cX12_way 33 = .ok (.iconst 0, 1) := by decide +kernel
theorem dX12_way_34 : decode cX12_way 34 = .ok (.invokevirtual 324, 3) := by decide +kernel
theorem dX12_way_37 : decode cX12_way 37 = .ok (.ifCond .le 13, 3) := by decide +kernel
theorem dX12_way_40 : decode cX12_way 40 = .ok (.aload_n 0, 1) := by decide +kernel
theorem dX12_way_41 : decode cX12_way 41 = .ok (.iload_n 1, 1) := by decide +kernel
theorem dX12_way_42 : decode cX12_way 42 = .ok (.iload_n 2, 1) := by decide +kernel
theorem dX12_way_43 : decode cX12_way 43 = .ok (.iload_n 3, 1) := by decide +kernel
theorem dX12_way_44 : decode cX12_way 44 = .ok (.invokevirtual 324, 3) := by decide +kernel
theorem dX12_way_47 : decode cX12_way 47 = .ok (.goto 4, 3) := by decide +kernel
theorem dX12_way_50 : decode cX12_way 50 = .ok (.iconst (-1), 1) := by decide +kernel
theorem dX12_way_51 : decode cX12_way 51 = .ok (.ireturn, 1) := by decide +kernel
theorem dX12_carrier_0 : decode cX12_carrier 0 = .ok (.aload_n 0, 1) := by decide +kernel
theorem dX12_carrier_1 : decode cX12_carrier 1 = .ok (.aload_n 0, 1) := by decide +kernel
theorem dX12_carrier_2 : decode cX12_carrier 2 = .ok (.iload_n 1, 1) := by decide +kernel
theorem dX12_carrier_3 : decode cX12_carrier 3 = .ok (.invokevirtual 363, 3) := by decide +kernel
theorem dX12_carrier_6 : decode cX12_carrier 6 = .ok (.ifCond .eq 17, 3) := by decide +kernel
theorem dX12_carrier_9 : decode cX12_carrier 9 = .ok (.iload_n 2, 1) := by decide +kernel
theorem dX12_carrier_10 : decode cX12_carrier 10 = .ok (.iconst 0, 1) := by decide +kernel
theorem dX12_carrier_11 : decode cX12_carrier 11 = .ok (.bipush 6, 2) := by decide +kernel
theorem dX12_carrier_13 : decode cX12_carrier 13 = .ok (.invokestatic 372, 3) := by decide +kernel
theorem dX12_carrier_16 : decode cX12_carrier 16 = .ok (.ifCond .eq 7, 3) := by decide +kernel
theorem dX12_carrier_19 : decode cX12_carrier 19 = .ok (.iconst 0, 1) := by decide +kernel
theorem dX12_carrier_20 : decode cX12_carrier 20 = .ok (.goto 4, 3) := by decide +kernel
theorem dX12_carrier_23 : decode cX12_carrier 23 = .ok (.iconst 1, 1) := by decide +kernel
theorem dX12_carrier_24 : decode cX12_carrier 24 = .ok (.putfield 1, 3) := by decide +kernel
theorem dX12_carrier_27 : decode cX12_carrier 27 = .ok (.aload_n 0, 1) := by decide +kernel
theorem dX12_carrier_28 : decode cX12_carrier 28 = .ok (.getfield 1, 3) := by decide +kernel
theorem dX12_carrier_31 : decode cX12_carrier 31 = .ok (.ifCond .le 5, 3) := by decide +kernel
theorem dX12_carrier_34 : decode cX12_carrier 34 = .ok (.iconst 0, 1) := by decide +kernel
theorem dX12_carrier_35 : decode cX12_carrier 35 = .ok (.ireturn, 1) := by decide +kernel
theorem dX12_carrier_36 : decode cX12_carrier 36 = .ok (.iload_n 2, 1) := by decide +kernel
theorem dX12_carrier_37 : decode cX12_carrier 37 = .ok (.tableswitch 81 1 6 #[39, 81, 81, 45, 59, 71], 39) := by decide +kernel
theorem dX12_carrier_76 : decode cX12_carrier 76 = .ok (.aload_n 0, 1) := by decide +kernel
theorem dX12_carrier_77 : decode cX12_carrier 77 = .ok (.iload_n 1, 1) := by decide +kernel
theorem dX12_carrier_78 : decode cX12_carrier 78 = .ok (.invokevirtual 366, 3) := by decide +kernel
theorem dX12_carrier_81 : decode cX12_carrier 81 = .ok (.ireturn, 1) := by decide +kernel
theorem dX12_carrier_82 : decode cX12_carrier 82 = .ok (.aload_n 0, 1) := by decide +kernel
theorem dX12_carrier_83 : decode cX12_carrier 83 = .ok (.iload_n 1, 1) := by decide +kernel
theorem dX12_carrier_84 : decode cX12_carrier 84 = .ok (.invokevirtual 327, 3) := by decide +kernel
theorem dX12_carrier_87 : decode cX12_carrier 87 = .ok (.ifCond .eq 7, 3) := by decide +kernel
theorem dX12_carrier_90 : decode cX12_carrier 90 = .ok (.iconst 1, 1) := by decide +kernel
theorem dX12_carrier_91 : decode cX12_carrier 91 = .ok (.goto 4, 3) := by decide +kernel
theorem dX12_carrier_94 : decode cX12_carrier 94 = .ok (.iconst 0, 1) := by decide +kernel
theorem dX12_carrier_95 : decode cX12_carrier 95 = .ok (.ireturn, 1) := by decide +kernel
theorem dX12_carrier_96 : decode cX12_carrier 96 = .ok (.aload_n 0, 1) := by decide +kernel
theorem dX12_carrier_97 : decode cX12_carrier 97 = .ok (.getfield 127, 3) := by decide +kernel
theorem dX12_carrier_100 : decode cX12_carrier 100 = .ok (.bipush 41, 2) := by decide +kernel
theorem dX12_carrier_102 : decode cX12_carrier 102 = .ok (.iaload, 1) := by decide +kernel
theorem dX12_carrier_103 : decode cX12_carrier 103 = .ok (.iload_n 1, 1) := by decide +kernel
theorem dX12_carrier_104 : decode cX12_carrier 104 = .ok (.ishr, 1) := by decide +kernel
theorem dX12_carrier_105 : decode cX12_carrier 105 = .ok (.iconst 1, 1) := by decide +kernel
theorem dX12_carrier_106 : decode cX12_carrier 106 = .ok (.iand, 1) := by decide +kernel
theorem dX12_carrier_107 : decode cX12_carrier 107 = .ok (.ireturn, 1) := by decide +kernel
theorem dX12_carrier_108 : decode cX12_carrier 108 = .ok (.aload_n 0, 1) := by decide +kernel
theorem dX12_carrier_109 : decode cX12_carrier 109 = .ok (.getfield 127, 3) := by decide +kernel
theorem dX12_carrier_112 : decode cX12_carrier 112 = .ok (.bipush 50, 2) := by decide +kernel
theorem dX12_carrier_114 : decode cX12_carrier 114 = .ok (.iload_n 1, 1) := by decide +kernel
theorem dX12_carrier_115 : decode cX12_carrier 115 = .ok (.iadd, 1) := by decide +kernel
theorem dX12_carrier_116 : decode cX12_carrier 116 = .ok (.iaload, 1) := by decide +kernel
theorem dX12_carrier_117 : decode cX12_carrier 117 = .ok (.ireturn, 1) := by decide +kernel
theorem dX12_carrier_118 : decode cX12_carrier 118 = .ok (.aload_n 0, 1) := by decide +kernel
theorem dX12_carrier_119 : decode cX12_carrier 119 = .ok (.iload_n 1, 1) := by decide +kernel
theorem dX12_carrier_120 : decode cX12_carrier 120 = .ok (.iload_n 2, 1) := by decide +kernel
theorem dX12_carrier_121 : decode cX12_carrier 121 = .ok (.invokevirtual 315, 3) := by decide +kernel
theorem dX12_carrier_124 : decode cX12_carrier 124 = .ok (.ireturn, 1) := by decide +kernel
theorem dX12_paths_0 : decode cX12_paths 0 = .ok (.aload_n 0, 1) := by decide +kernel
theorem dX12_paths_1 : decode cX12_paths 1 = .ok (.iconst 0, 1) := by decide +kernel
theorem dX12_paths_2 : decode cX12_paths 2 = .ok (.putfield 1, 3) := by decide +kernel
theorem dX12_paths_5 : decode cX12_paths 5 = .ok (.aload_n 0, 1) := by decide +kernel
theorem dX12_paths_6 : decode cX12_paths 6 = .ok (.getfield 318, 3) := by decide +kernel
theorem dX12_paths_9 : decode cX12_paths 9 = .ok (.ireturn, 1) := by decide +kernel
theorem dX12_path_0 : decode cX12_path 0 = .ok (.aload_n 0, 1) := by decide +kernel
theorem dX12_path_1 : decode cX12_path 1 = .ok (.iconst 0, 1) := by decide +kernel
theorem dX12_path_2 : decode cX12_path 2 = .ok (.putfield 1, 3) := by decide +kernel
theorem dX12_path_5 : decode cX12_path 5 = .ok (.aload_n 0, 1) := by decide +kernel
theorem dX12_path_6 : decode cX12_path 6 = .ok (.iload_n 1, 1) := by decide +kernel
theorem dX12_path_7 : decode cX12_path 7 = .ok (.invokevirtual 376, 3) := by decide +kernel
theorem dX12_path_10 : decode cX12_path 10 = .ok (.ifCond .eq 25, 3) := by decide +kernel
theorem dX12_path_13 : decode cX12_path 13 = .ok (.iload_n 2, 1) := by decide +kernel
theorem dX12_path_14 : decode cX12_path 14 = .ok (.ifCond .lt 21, 3) := by decide +kernel
theorem dX12_path_17 : decode cX12_path 17 = .ok (.iload_n 2, 1) := by decide +kernel
theorem dX12_path_18 : decode cX12_path 18 = .ok (.aload_n 0, 1) := by decide +kernel
theorem dX12_path_19 : decode cX12_path 19 = .ok (.iload_n 1, 1) := by decide +kernel
theorem dX12_path_20 : decode cX12_path 20 = .ok (.invokevirtual 351, 3) := by decide +kernel
theorem dX12_path_23 : decode cX12_path 23 = .ok (.if_icmp .ge 12, 3) := by decide +kernel
theorem dX12_path_26 : decode cX12_path 26 = .ok (.aload_n 0, 1) := by decide +kernel
theorem dX12_path_27 : decode cX12_path 27 = .ok (.iload_n 1, 1) := by decide +kernel
theorem dX12_path_28 : decode cX12_path 28 = .ok (.iload_n 2, 1) := by decide +kernel
theorem dX12_path_29 : decode cX12_path 29 = .ok (.invokevirtual 354, 3) := by decide +kernel
theorem dX12_path_32 : decode cX12_path 32 = .ok (.goto 4, 3) := by decide +kernel
theorem dX12_path_35 : decode cX12_path 35 = .ok (.iconst (-1), 1) := by decide +kernel
theorem dX12_path_36 : decode cX12_path 36 = .ok (.ireturn, 1) := by decide +kernel
theorem dX12_trip_0 : decode cX12_trip 0 = .ok (.aload_n 0, 1) := by decide +kernel
theorem dX12_trip_1 : decode cX12_trip 1 = .ok (.iconst 0, 1) := by decide +kernel
theorem dX12_trip_2 : decode cX12_trip 2 = .ok (.putfield 1, 3) := by decide +kernel
theorem dX12_trip_5 : decode cX12_trip 5 = .ok (.aload_n 0, 1) := by decide +kernel
theorem dX12_trip_6 : decode cX12_trip 6 = .ok (.iload_n 1, 1) := by decide +kernel
theorem dX12_trip_7 : decode cX12_trip 7 = .ok (.iload_n 3, 1) := by decide +kernel
theorem dX12_trip_8 : decode cX12_trip 8 = .ok (.invokevirtual 379, 3) := by decide +kernel
theorem dX12_trip_11 : decode cX12_trip 11 = .ok (.ifCond .eq 21, 3) := by decide +kernel
theorem dX12_trip_14 : decode cX12_trip 14 = .ok (.aload_n 0, 1) := by decide +kernel
theorem dX12_trip_15 : decode cX12_trip 15 = .ok (.iload_n 2, 1) := by decide +kernel
theorem dX12_trip_16 : decode cX12_trip 16 = .ok (.invokevirtual 376, 3) := by decide +kernel
theorem dX12_trip_19 : decode cX12_trip 19 = .ok (.ifCond .eq 13, 3) := by decide +kernel
theorem dX12_trip_22 : decode cX12_trip 22 = .ok (.iload 4, 2) := by decide +kernel
theorem dX12_trip_24 : decode cX12_trip 24 = .ok (.iconst 0, 1) := by decide +kernel
theorem dX12_trip_25 : decode cX12_trip 25 = .ok (.iconst 3, 1) := by decide +kernel
theorem dX12_trip_26 : decode cX12_trip 26 = .ok (.invokestatic 372, 3) := by decide +kernel
theorem dX12_trip_29 : decode cX12_trip 29 = .ok (.ifCond .ne 5, 3) := by decide +kernel
theorem dX12_trip_32 : decode cX12_trip 32 = .ok (.iconst (-1), 1) := by decide +kernel
theorem dX12_trip_33 : decode cX12_trip 33 = .ok (.ireturn, 1) := by decide +kernel
theorem dX12_trip_34 : decode cX12_trip 34 = .ok (.aload_n 0, 1) := by decide +kernel
theorem dX12_trip_35 : decode cX12_trip 35 = .ok (.iload_n 1, 1) := by decide +kernel
theorem dX12_trip_36 : decode cX12_trip 36 = .ok (.iload_n 2, 1) := by decide +kernel
theorem dX12_trip_37 : decode cX12_trip 37 = .ok (.iload_n 3, 1) := by decide +kernel
theorem dX12_trip_38 : decode cX12_trip 38 = .ok (.invokevirtual 383, 3) := by decide +kernel
theorem dX12_trip_41 : decode cX12_trip 41 = .ok (.iload 4, 2) := by decide +kernel
theorem dX12_trip_43 : decode cX12_trip 43 = .ok (.ifCond .ne 10, 3) := by decide +kernel
theorem dX12_trip_46 : decode cX12_trip 46 = .ok (.aload_n 0, 1) := by decide +kernel
theorem dX12_trip_47 : decode cX12_trip 47 = .ok (.getfield 330, 3) := by decide +kernel
theorem dX12_trip_50 : decode cX12_trip 50 = .ok (.goto 33, 3) := by decide +kernel
theorem dX12_trip_53 : decode cX12_trip 53 = .ok (.iload 4, 2) := by decide +kernel
theorem dX12_trip_55 : decode cX12_trip 55 = .ok (.iconst 1, 1) := by decide +kernel
theorem dX12_trip_56 : decode cX12_trip 56 = .ok (.if_icmp .ne 10, 3) := by decide +kernel
theorem dX12_trip_59 : decode cX12_trip 59 = .ok (.aload_n 0, 1) := by decide +kernel
theorem dX12_trip_60 : decode cX12_trip 60 = .ok (.getfield 336, 3) := by decide +kernel
theorem dX12_trip_63 : decode cX12_trip 63 = .ok (.goto 20, 3) := by decide +kernel
theorem dX12_trip_66 : decode cX12_trip 66 = .ok (.iload 4, 2) := by decide +kernel
theorem dX12_trip_68 : decode cX12_trip 68 = .ok (.iconst 2, 1) := by decide +kernel
theorem dX12_trip_69 : decode cX12_trip 69 = .ok (.if_icmp .ne 10, 3) := by decide +kernel
theorem dX12_trip_72 : decode cX12_trip 72 = .ok (.aload_n 0, 1) := by decide +kernel
theorem dX12_trip_73 : decode cX12_trip 73 = .ok (.getfield 345, 3) := by decide +kernel
theorem dX12_trip_76 : decode cX12_trip 76 = .ok (.goto 7, 3) := by decide +kernel
theorem dX12_trip_79 : decode cX12_trip 79 = .ok (.aload_n 0, 1) := by decide +kernel
theorem dX12_trip_80 : decode cX12_trip 80 = .ok (.getfield 333, 3) := by decide +kernel
theorem dX12_trip_83 : decode cX12_trip 83 = .ok (.ireturn, 1) := by decide +kernel
theorem dX12_draw_0 : decode cX12_draw 0 = .ok (.aload_n 0, 1) := by decide +kernel
theorem dX12_draw_1 : decode cX12_draw 1 = .ok (.getfield 127, 3) := by decide +kernel
theorem dX12_draw_4 : decode cX12_draw 4 = .ok (.bipush 37, 2) := by decide +kernel
theorem dX12_draw_6 : decode cX12_draw 6 = .ok (.iaload, 1) := by decide +kernel
theorem dX12_draw_7 : decode cX12_draw 7 = .ok (.i2l, 1) := by decide +kernel
theorem dX12_draw_8 : decode cX12_draw 8 = .ok (.ldc2_w 386, 3) := by decide +kernel
theorem dX12_draw_11 : decode cX12_draw 11 = .ok (.lmul, 1) := by decide +kernel
theorem dX12_draw_12 : decode cX12_draw 12 = .ok (.ldc2_w 388, 3) := by decide +kernel
theorem dX12_draw_15 : decode cX12_draw 15 = .ok (.ladd, 1) := by decide +kernel
theorem dX12_draw_16 : decode cX12_draw 16 = .ok (.ldc2_w 390, 3) := by decide +kernel
theorem dX12_draw_19 : decode cX12_draw 19 = .ok (.lrem, 1) := by decide +kernel
theorem dX12_draw_20 : decode cX12_draw 20 = .ok (.lstore_n 2, 1) := by decide +kernel
theorem dX12_draw_21 : decode cX12_draw 21 = .ok (.aload_n 0, 1) := by decide +kernel
theorem dX12_draw_22 : decode cX12_draw 22 = .ok (.getfield 127, 3) := by decide +kernel
theorem dX12_draw_25 : decode cX12_draw 25 = .ok (.bipush 37, 2) := by decide +kernel
theorem dX12_draw_27 : decode cX12_draw 27 = .ok (.lload_n 2, 1) := by decide +kernel
theorem dX12_draw_28 : decode cX12_draw 28 = .ok (.l2i, 1) := by decide +kernel
theorem dX12_draw_29 : decode cX12_draw 29 = .ok (.iastore, 1) := by decide +kernel
theorem dX12_draw_30 : decode cX12_draw 30 = .ok (.lload_n 2, 1) := by decide +kernel
theorem dX12_draw_31 : decode cX12_draw 31 = .ok (.ldc2_w 392, 3) := by decide +kernel
theorem dX12_draw_34 : decode cX12_draw 34 = .ok (.ldiv, 1) := by decide +kernel
theorem dX12_draw_35 : decode cX12_draw 35 = .ok (.iload_n 1, 1) := by decide +kernel
theorem dX12_draw_36 : decode cX12_draw 36 = .ok (.i2l, 1) := by decide +kernel
theorem dX12_draw_37 : decode cX12_draw 37 = .ok (.lrem, 1) := by decide +kernel
theorem dX12_draw_38 : decode cX12_draw 38 = .ok (.l2i, 1) := by decide +kernel
theorem dX12_draw_39 : decode cX12_draw 39 = .ok (.ireturn, 1) := by decide +kernel
theorem dX12_fills_0 : decode cX12_fills 0 = .ok (.aload_n 0, 1) := by decide +kernel
theorem dX12_fills_1 : decode cX12_fills 1 = .ok (.getfield 97, 3) := by decide +kernel
theorem dX12_fills_4 : decode cX12_fills 4 = .ok (.bipush 8, 2) := by decide +kernel
theorem dX12_fills_6 : decode cX12_fills 6 = .ok (.iconst 2, 1) := by decide +kernel
theorem dX12_fills_7 : decode cX12_fills 7 = .ok (.iload_n 2, 1) := by decide +kernel
theorem dX12_fills_8 : decode cX12_fills 8 = .ok (.imul, 1) := by decide +kernel
theorem dX12_fills_9 : decode cX12_fills 9 = .ok (.iadd, 1) := by decide +kernel
theorem dX12_fills_10 : decode cX12_fills 10 = .ok (.iaload, 1) := by decide +kernel
theorem dX12_fills_11 : decode cX12_fills 11 = .ok (.aload_n 0, 1) := by decide +kernel
theorem dX12_fills_12 : decode cX12_fills 12 = .ok (.getfield 97, 3) := by decide +kernel
theorem dX12_fills_15 : decode cX12_fills 15 = .ok (.iconst 3, 1) := by decide +kernel
theorem dX12_fills_16 : decode cX12_fills 16 = .ok (.iaload, 1) := by decide +kernel
theorem dX12_fills_17 : decode cX12_fills 17 = .ok (.if_icmp .lt 33, 3) := by decide +kernel
theorem dX12_fills_20 : decode cX12_fills 20 = .ok (.aload_n 0, 1) := by decide +kernel
theorem dX12_fills_21 : decode cX12_fills 21 = .ok (.dup, 1) := by decide +kernel
theorem dX12_fills_22 : decode cX12_fills 22 = .ok (.getfield 330, 3) := by decide +kernel
theorem dX12_fills_25 : decode cX12_fills 25 = .ok (.aload_n 0, 1) := by decide +kernel
theorem dX12_fills_26 : decode cX12_fills 26 = .ok (.iconst 4, 1) := by decide +kernel
theorem dX12_fills_27 : decode cX12_fills 27 = .ok (.invokevirtual 394, 3) := by decide +kernel
theorem dX12_fills_30 : decode cX12_fills 30 = .ok (.aload_n 0, 1) := by decide +kernel
theorem dX12_fills_31 : decode cX12_fills 31 = .ok (.iload_n 1, 1) := by decide +kernel
theorem dX12_fills_32 : decode cX12_fills 32 = .ok (.iconst 0, 1) := by decide +kernel
theorem dX12_fills_33 : decode cX12_fills 33 = .ok (.invokevirtual 315, 3) := by decide +kernel
theorem dX12_fills_36 : decode cX12_fills 36 = .ok (.iconst 5, 1) := by decide +kernel
theorem dX12_fills_37 : decode cX12_fills 37 = .ok (.if_icmp .ne 7, 3) := by decide +kernel
theorem dX12_fills_40 : decode cX12_fills 40 = .ok (.iconst 1, 1) := by decide +kernel
theorem dX12_fills_41 : decode cX12_fills 41 = .ok (.goto 4, 3) := by decide +kernel
theorem dX12_fills_44 : decode cX12_fills 44 = .ok (.iconst 0, 1) := by decide +kernel
theorem dX12_fills_45 : decode cX12_fills 45 = .ok (.iadd, 1) := by decide +kernel
theorem dX12_fills_46 : decode cX12_fills 46 = .ok (.iadd, 1) := by decide +kernel
theorem dX12_fills_47 : decode cX12_fills 47 = .ok (.putfield 330, 3) := by decide +kernel
theorem dX12_fills_50 : decode cX12_fills 50 = .ok (.aload_n 0, 1) := by decide +kernel
theorem dX12_fills_51 : decode cX12_fills 51 = .ok (.aload_n 0, 1) := by decide +kernel
theorem dX12_fills_52 : decode cX12_fills 52 = .ok (.getfield 330, 3) := by decide +kernel
theorem dX12_fills_55 : decode cX12_fills 55 = .ok (.aload_n 0, 1) := by decide +kernel
theorem dX12_fills_56 : decode cX12_fills 56 = .ok (.iload_n 1, 1) := by decide +kernel
theorem dX12_fills_57 : decode cX12_fills 57 = .ok (.invokevirtual 366, 3) := by decide +kernel
theorem dX12_fills_60 : decode cX12_fills 60 = .ok (.if_icmp .le 11, 3) := by decide +kernel
theorem dX12_fills_63 : decode cX12_fills 63 = .ok (.aload_n 0, 1) := by decide +kernel
theorem dX12_fills_64 : decode cX12_fills 64 = .ok (.iload_n 1, 1) := by decide +kernel
theorem dX12_fills_65 : decode cX12_fills 65 = .ok (.invokevirtual 366, 3) := by decide +kernel
theorem dX12_fills_68 : decode cX12_fills 68 = .ok (.goto 7, 3) := by decide +kernel
theorem dX12_fills_71 : decode cX12_fills 71 = .ok (.aload_n 0, 1) := by decide +kernel
theorem dX12_fills_72 : decode cX12_fills 72 = .ok (.getfield 330, 3) := by decide +kernel
theorem dX12_fills_75 : decode cX12_fills 75 = .ok (.putfield 330, 3) := by decide +kernel
theorem dX12_fills_78 : decode cX12_fills 78 = .ok (.aload_n 0, 1) := by decide +kernel
theorem dX12_fills_79 : decode cX12_fills 79 = .ok (.iload_n 1, 1) := by decide +kernel
theorem dX12_fills_80 : decode cX12_fills 80 = .ok (.invokevirtual 366, 3) := by decide +kernel
theorem dX12_fills_83 : decode cX12_fills 83 = .ok (.aload_n 0, 1) := by decide +kernel
theorem dX12_fills_84 : decode cX12_fills 84 = .ok (.getfield 330, 3) := by decide +kernel
theorem dX12_fills_87 : decode cX12_fills 87 = .ok (.isub, 1) := by decide +kernel
theorem dX12_fills_88 : decode cX12_fills 88 = .ok (.istore_n 3, 1) := by decide +kernel
theorem dX12_fills_89 : decode cX12_fills 89 = .ok (.aload_n 0, 1) := by decide +kernel
theorem dX12_fills_90 : decode cX12_fills 90 = .ok (.getfield 127, 3) := by decide +kernel
theorem dX12_fills_93 : decode cX12_fills 93 = .ok (.bipush 43, 2) := by decide +kernel
theorem dX12_fills_95 : decode cX12_fills 95 = .ok (.iload_n 2, 1) := by decide +kernel
theorem dX12_fills_96 : decode cX12_fills 96 = .ok (.iadd, 1) := by decide +kernel
theorem dX12_fills_97 : decode cX12_fills 97 = .ok (.iaload, 1) := by decide +kernel
theorem dX12_fills_98 : decode cX12_fills 98 = .ok (.iload_n 3, 1) := by decide +kernel
theorem dX12_fills_99 : decode cX12_fills 99 = .ok (.if_icmp .ge 15, 3) := by decide +kernel
theorem dX12_fills_102 : decode cX12_fills 102 = .ok (.aload_n 0, 1) := by decide +kernel
theorem dX12_fills_103 : decode cX12_fills 103 = .ok (.getfield 127, 3) := by decide +kernel
theorem dX12_fills_106 : decode cX12_fills 106 = .ok (.bipush 43, 2) := by decide +kernel
theorem dX12_fills_108 : decode cX12_fills 108 = .ok (.iload_n 2, 1) := by decide +kernel
theorem dX12_fills_109 : decode cX12_fills 109 = .ok (.iadd, 1) := by decide +kernel
theorem dX12_fills_110 : decode cX12_fills 110 = .ok (.iaload, 1) := by decide +kernel
theorem dX12_fills_111 : decode cX12_fills 111 = .ok (.goto 4, 3) := by decide +kernel
theorem dX12_fills_114 : decode cX12_fills 114 = .ok (.iload_n 3, 1) := by decide +kernel
theorem dX12_fills_115 : decode cX12_fills 115 = .ok (.istore 4, 2) := by decide +kernel
theorem dX12_fills_117 : decode cX12_fills 117 = .ok (.aload_n 0, 1) := by decide +kernel
theorem dX12_fills_118 : decode cX12_fills 118 = .ok (.dup, 1) := by decide +kernel
theorem dX12_fills_119 : decode cX12_fills 119 = .ok (.getfield 330, 3) := by decide +kernel
theorem dX12_fills_122 : decode cX12_fills 122 = .ok (.iload 4, 2) := by decide +kernel
theorem dX12_fills_124 : decode cX12_fills 124 = .ok (.iadd, 1) := by decide +kernel
theorem dX12_fills_125 : decode cX12_fills 125 = .ok (.putfield 330, 3) := by decide +kernel
theorem dX12_fills_128 : decode cX12_fills 128 = .ok (.aload_n 0, 1) := by decide +kernel
theorem dX12_fills_129 : decode cX12_fills 129 = .ok (.getfield 127, 3) := by decide +kernel
theorem dX12_fills_132 : decode cX12_fills 132 = .ok (.bipush 43, 2) := by decide +kernel
theorem dX12_fills_134 : decode cX12_fills 134 = .ok (.iload_n 2, 1) := by decide +kernel
theorem dX12_fills_135 : decode cX12_fills 135 = .ok (.iadd, 1) := by decide +kernel
theorem dX12_fills_136 : decode cX12_fills 136 = .ok (.dup2, 1) := by decide +kernel
theorem dX12_fills_137 : decode cX12_fills 137 = .ok (.iaload, 1) := by decide +kernel
theorem dX12_fills_138 : decode cX12_fills 138 = .ok (.iload 4, 2) := by decide +kernel
theorem dX12_fills_140 : decode cX12_fills 140 = .ok (.isub, 1) := by decide +kernel
theorem dX12_fills_141 : decode cX12_fills 141 = .ok (.iastore, 1) := by decide +kernel
theorem dX12_fills_142 : decode cX12_fills 142 = .ok (.return_, 1) := by decide +kernel
theorem dX12_writes_0 : decode cX12_writes 0 = .ok (.aload_n 0, 1) := by decide +kernel
theorem dX12_writes_1 : decode cX12_writes 1 = .ok (.getfield 127, 3) := by decide +kernel
theorem dX12_writes_4 : decode cX12_writes 4 = .ok (.bipush 42, 2) := by decide +kernel
theorem dX12_writes_6 : decode cX12_writes 6 = .ok (.iaload, 1) := by decide +kernel
theorem dX12_writes_7 : decode cX12_writes 7 = .ok (.istore 4, 2) := by decide +kernel
theorem dX12_writes_9 : decode cX12_writes 9 = .ok (.iload_n 3, 1) := by decide +kernel
theorem dX12_writes_10 : decode cX12_writes 10 = .ok (.ifCond .le 64, 3) := by decide +kernel
theorem dX12_writes_13 : decode cX12_writes 13 = .ok (.iload 4, 2) := by decide +kernel
theorem dX12_writes_15 : decode cX12_writes 15 = .ok (.bipush 60, 2) := by decide +kernel
theorem dX12_writes_17 : decode cX12_writes 17 = .ok (.if_icmp .ge 57, 3) := by decide +kernel
theorem dX12_writes_20 : decode cX12_writes 20 = .ok (.aload_n 0, 1) := by decide +kernel
theorem dX12_writes_21 : decode cX12_writes 21 = .ok (.getfield 127, 3) := by decide +kernel
theorem dX12_writes_24 : decode cX12_writes 24 = .ok (.bipush 56, 2) := by decide +kernel
theorem dX12_writes_26 : decode cX12_writes 26 = .ok (.iconst 3, 1) := by decide +kernel
theorem dX12_writes_27 : decode cX12_writes 27 = .ok (.iload 4, 2) := by decide +kernel
theorem dX12_writes_29 : decode cX12_writes 29 = .ok (.imul, 1) := by decide +kernel
theorem dX12_writes_30 : decode cX12_writes 30 = .ok (.iadd, 1) := by decide +kernel
theorem dX12_writes_31 : decode cX12_writes 31 = .ok (.iload_n 1, 1) := by decide +kernel
theorem dX12_writes_32 : decode cX12_writes 32 = .ok (.iastore, 1) := by decide +kernel
theorem dX12_writes_33 : decode cX12_writes 33 = .ok (.aload_n 0, 1) := by decide +kernel
theorem dX12_writes_34 : decode cX12_writes 34 = .ok (.getfield 127, 3) := by decide +kernel
theorem dX12_writes_37 : decode cX12_writes 37 = .ok (.bipush 56, 2) := by decide +kernel
theorem dX12_writes_39 : decode cX12_writes 39 = .ok (.iconst 3, 1) := by decide +kernel
theorem dX12_writes_40 : decode cX12_writes 40 = .ok (.iload 4, 2) := by decide +kernel
theorem dX12_writes_42 : decode cX12_writes 42 = .ok (.imul, 1) := by decide +kernel
theorem dX12_writes_43 : decode cX12_writes 43 = .ok (.iadd, 1) := by decide +kernel
theorem dX12_writes_44 : decode cX12_writes 44 = .ok (.iconst 1, 1) := by decide +kernel
theorem dX12_writes_45 : decode cX12_writes 45 = .ok (.iadd, 1) := by decide +kernel
theorem dX12_writes_46 : decode cX12_writes 46 = .ok (.iload_n 2, 1) := by decide +kernel
theorem dX12_writes_47 : decode cX12_writes 47 = .ok (.iastore, 1) := by decide +kernel
theorem dX12_writes_48 : decode cX12_writes 48 = .ok (.aload_n 0, 1) := by decide +kernel
theorem dX12_writes_49 : decode cX12_writes 49 = .ok (.getfield 127, 3) := by decide +kernel
theorem dX12_writes_52 : decode cX12_writes 52 = .ok (.bipush 56, 2) := by decide +kernel
theorem dX12_writes_54 : decode cX12_writes 54 = .ok (.iconst 3, 1) := by decide +kernel
theorem dX12_writes_55 : decode cX12_writes 55 = .ok (.iload 4, 2) := by decide +kernel
theorem dX12_writes_57 : decode cX12_writes 57 = .ok (.imul, 1) := by decide +kernel
theorem dX12_writes_58 : decode cX12_writes 58 = .ok (.iadd, 1) := by decide +kernel
theorem dX12_writes_59 : decode cX12_writes 59 = .ok (.iconst 2, 1) := by decide +kernel
theorem dX12_writes_60 : decode cX12_writes 60 = .ok (.iadd, 1) := by decide +kernel
theorem dX12_writes_61 : decode cX12_writes 61 = .ok (.iload_n 3, 1) := by decide +kernel
theorem dX12_writes_62 : decode cX12_writes 62 = .ok (.iastore, 1) := by decide +kernel
theorem dX12_writes_63 : decode cX12_writes 63 = .ok (.aload_n 0, 1) := by decide +kernel
theorem dX12_writes_64 : decode cX12_writes 64 = .ok (.getfield 127, 3) := by decide +kernel
theorem dX12_writes_67 : decode cX12_writes 67 = .ok (.bipush 42, 2) := by decide +kernel
theorem dX12_writes_69 : decode cX12_writes 69 = .ok (.dup2, 1) := by decide +kernel
theorem dX12_writes_70 : decode cX12_writes 70 = .ok (.iaload, 1) := by decide +kernel
theorem dX12_writes_71 : decode cX12_writes 71 = .ok (.iconst 1, 1) := by decide +kernel
theorem dX12_writes_72 : decode cX12_writes 72 = .ok (.iadd, 1) := by decide +kernel
theorem dX12_writes_73 : decode cX12_writes 73 = .ok (.iastore, 1) := by decide +kernel
theorem dX12_writes_74 : decode cX12_writes 74 = .ok (.return_, 1) := by decide +kernel
theorem dX12_priceNow_0 : decode cX12_priceNow 0 = .ok (.aload_n 0, 1) := by decide +kernel
theorem dX12_priceNow_1 : decode cX12_priceNow 1 = .ok (.getfield 97, 3) := by decide +kernel
theorem dX12_priceNow_4 : decode cX12_priceNow 4 = .ok (.bipush 7, 2) := by decide +kernel
theorem dX12_priceNow_6 : decode cX12_priceNow 6 = .ok (.iaload, 1) := by decide +kernel
theorem dX12_priceNow_7 : decode cX12_priceNow 7 = .ok (.ifCond .ge 5, 3) := by decide +kernel
theorem dX12_priceNow_10 : decode cX12_priceNow 10 = .ok (.iconst 1, 1) := by decide +kernel
theorem dX12_priceNow_11 : decode cX12_priceNow 11 = .ok (.ireturn, 1) := by decide +kernel
theorem dX12_priceNow_12 : decode cX12_priceNow 12 = .ok (.aload_n 0, 1) := by decide +kernel
theorem dX12_priceNow_13 : decode cX12_priceNow 13 = .ok (.getfield 121, 3) := by decide +kernel
theorem dX12_priceNow_16 : decode cX12_priceNow 16 = .ok (.iconst 0, 1) := by decide +kernel
theorem dX12_priceNow_17 : decode cX12_priceNow 17 = .ok (.aload_n 0, 1) := by decide +kernel
theorem dX12_priceNow_18 : decode cX12_priceNow 18 = .ok (.getfield 127, 3) := by decide +kernel
theorem dX12_priceNow_21 : decode cX12_priceNow 21 = .ok (.bipush 38, 2) := by decide +kernel
theorem dX12_priceNow_23 : decode cX12_priceNow 23 = .ok (.iaload, 1) := by decide +kernel
theorem dX12_priceNow_24 : decode cX12_priceNow 24 = .ok (.iastore, 1) := by decide +kernel
theorem dX12_priceNow_25 : decode cX12_priceNow 25 = .ok (.aload_n 0, 1) := by decide +kernel
theorem dX12_priceNow_26 : decode cX12_priceNow 26 = .ok (.getfield 121, 3) := by decide +kernel
theorem dX12_priceNow_29 : decode cX12_priceNow 29 = .ok (.iconst 1, 1) := by decide +kernel
theorem dX12_priceNow_30 : decode cX12_priceNow 30 = .ok (.aload_n 0, 1) := by decide +kernel
theorem dX12_priceNow_31 : decode cX12_priceNow 31 = .ok (.getfield 127, 3) := by decide +kernel
theorem dX12_priceNow_34 : decode cX12_priceNow 34 = .ok (.bipush 40, 2) := by decide +kernel
theorem dX12_priceNow_36 : decode cX12_priceNow 36 = .ok (.iaload, 1) := by decide +kernel
theorem dX12_priceNow_37 : decode cX12_priceNow 37 = .ok (.iastore, 1) := by decide +kernel
theorem dX12_priceNow_38 : decode cX12_priceNow 38 = .ok (.aload_n 0, 1) := by decide +kernel
theorem dX12_priceNow_39 : decode cX12_priceNow 39 = .ok (.aload_n 0, 1) := by decide +kernel
theorem dX12_priceNow_40 : decode cX12_priceNow 40 = .ok (.getfield 97, 3) := by decide +kernel
theorem dX12_priceNow_43 : decode cX12_priceNow 43 = .ok (.bipush 7, 2) := by decide +kernel
theorem dX12_priceNow_45 : decode cX12_priceNow 45 = .ok (.iaload, 1) := by decide +kernel
theorem dX12_priceNow_46 : decode cX12_priceNow 46 = .ok (.invokevirtual 342, 3) := by decide +kernel
theorem dX12_priceNow_49 : decode cX12_priceNow 49 = .ok (.istore_n 1, 1) := by decide +kernel
theorem dX12_priceNow_50 : decode cX12_priceNow 50 = .ok (.iload_n 1, 1) := by decide +kernel
theorem dX12_priceNow_51 : decode cX12_priceNow 51 = .ok (.ifCond .ge 7, 3) := by decide +kernel
theorem dX12_priceNow_54 : decode cX12_priceNow 54 = .ok (.iconst 0, 1) := by decide +kernel
theorem dX12_priceNow_55 : decode cX12_priceNow 55 = .ok (.goto 15, 3) := by decide +kernel
theorem dX12_priceNow_58 : decode cX12_priceNow 58 = .ok (.iload_n 1, 1) := by decide +kernel
theorem dX12_priceNow_59 : decode cX12_priceNow 59 = .ok (.bipush 99, 2) := by decide +kernel
theorem dX12_priceNow_61 : decode cX12_priceNow 61 = .ok (.if_icmp .le 8, 3) := by decide +kernel
theorem dX12_priceNow_64 : decode cX12_priceNow 64 = .ok (.bipush 99, 2) := by decide +kernel
theorem dX12_priceNow_66 : decode cX12_priceNow 66 = .ok (.goto 4, 3) := by decide +kernel
theorem dX12_priceNow_69 : decode cX12_priceNow 69 = .ok (.iload_n 1, 1) := by decide +kernel
theorem dX12_priceNow_70 : decode cX12_priceNow 70 = .ok (.ireturn, 1) := by decide +kernel
theorem dX12_send_0 : decode cX12_send 0 = .ok (.aload_n 0, 1) := by decide +kernel
theorem dX12_send_1 : decode cX12_send 1 = .ok (.iconst 0, 1) := by decide +kernel
theorem dX12_send_2 : decode cX12_send 2 = .ok (.putfield 1, 3) := by decide +kernel
theorem dX12_send_5 : decode cX12_send 5 = .ok (.aload_n 0, 1) := by decide +kernel
theorem dX12_send_6 : decode cX12_send 6 = .ok (.iload_n 1, 1) := by decide +kernel
theorem dX12_send_7 : decode cX12_send 7 = .ok (.iload_n 3, 1) := by decide +kernel
theorem dX12_send_8 : decode cX12_send 8 = .ok (.invokevirtual 379, 3) := by decide +kernel
theorem dX12_send_11 : decode cX12_send 11 = .ok (.ifCond .eq 37, 3) := by decide +kernel
theorem dX12_send_14 : decode cX12_send 14 = .ok (.aload_n 0, 1) := by decide +kernel
theorem dX12_send_15 : decode cX12_send 15 = .ok (.iload_n 2, 1) := by decide +kernel
theorem dX12_send_16 : decode cX12_send 16 = .ok (.invokevirtual 376, 3) := by decide +kernel
theorem dX12_send_19 : decode cX12_send 19 = .ok (.ifCond .eq 29, 3) := by decide +kernel
theorem dX12_send_22 : decode cX12_send 22 = .ok (.aload_n 0, 1) := by decide +kernel
theorem dX12_send_23 : decode cX12_send 23 = .ok (.getfield 127, 3) := by decide +kernel
theorem dX12_send_26 : decode cX12_send 26 = .ok (.bipush 41, 2) := by decide +kernel
theorem dX12_send_28 : decode cX12_send 28 = .ok (.iaload, 1) := by decide +kernel
theorem dX12_send_29 : decode cX12_send 29 = .ok (.iload_n 1, 1) := by decide +kernel
theorem dX12_send_30 : decode cX12_send 30 = .ok (.ishr, 1) := by decide +kernel
theorem dX12_send_31 : decode cX12_send 31 = .ok (.iconst 1, 1) := by decide +kernel
theorem dX12_send_32 : decode cX12_send 32 = .ok (.iand, 1) := by decide +kernel
theorem dX12_send_33 : decode cX12_send 33 = .ok (.iconst 1, 1) := by decide +kernel
theorem dX12_send_34 : decode cX12_send 34 = .ok (.if_icmp .eq 14, 3) := by decide +kernel
theorem dX12_send_37 : decode cX12_send 37 = .ok (.iload_n 3, 1) := by decide +kernel
theorem dX12_send_38 : decode cX12_send 38 = .ok (.aload_n 0, 1) := by decide +kernel
theorem dX12_send_39 : decode cX12_send 39 = .ok (.getfield 127, 3) := by decide +kernel
theorem dX12_send_42 : decode cX12_send 42 = .ok (.bipush 39, 2) := by decide +kernel
theorem dX12_send_44 : decode cX12_send 44 = .ok (.iaload, 1) := by decide +kernel
theorem dX12_send_45 : decode cX12_send 45 = .ok (.if_icmp .le 5, 3) := by decide +kernel
theorem dX12_send_48 : decode cX12_send 48 = .ok (.iconst (-1), 1) := by decide +kernel
theorem dX12_send_49 : decode cX12_send 49 = .ok (.ireturn, 1) := by decide +kernel
theorem dX12_send_50 : decode cX12_send 50 = .ok (.aload_n 0, 1) := by decide +kernel
theorem dX12_send_51 : decode cX12_send 51 = .ok (.getfield 127, 3) := by decide +kernel
theorem dX12_send_54 : decode cX12_send 54 = .ok (.bipush 39, 2) := by decide +kernel
theorem dX12_send_56 : decode cX12_send 56 = .ok (.dup2, 1) := by decide +kernel
theorem dX12_send_57 : decode cX12_send 57 = .ok (.iaload, 1) := by decide +kernel
theorem dX12_send_58 : decode cX12_send 58 = .ok (.iload_n 3, 1) := by decide +kernel
theorem dX12_send_59 : decode cX12_send 59 = .ok (.isub, 1) := by decide +kernel
theorem dX12_send_60 : decode cX12_send 60 = .ok (.iastore, 1) := by decide +kernel
theorem dX12_send_61 : decode cX12_send 61 = .ok (.aload_n 0, 1) := by decide +kernel
theorem dX12_send_62 : decode cX12_send 62 = .ok (.getfield 127, 3) := by decide +kernel
theorem dX12_send_65 : decode cX12_send 65 = .ok (.bipush 41, 2) := by decide +kernel
theorem dX12_send_67 : decode cX12_send 67 = .ok (.dup2, 1) := by decide +kernel
theorem dX12_send_68 : decode cX12_send 68 = .ok (.iaload, 1) := by decide +kernel
theorem dX12_send_69 : decode cX12_send 69 = .ok (.iconst 1, 1) := by decide +kernel
theorem dX12_send_70 : decode cX12_send 70 = .ok (.iload_n 1, 1) := by decide +kernel
theorem dX12_send_71 : decode cX12_send 71 = .ok (.ishl, 1) := by decide +kernel
theorem dX12_send_72 : decode cX12_send 72 = .ok (.ior, 1) := by decide +kernel
theorem dX12_send_73 : decode cX12_send 73 = .ok (.iastore, 1) := by decide +kernel
theorem dX12_send_74 : decode cX12_send 74 = .ok (.aload_n 0, 1) := by decide +kernel
theorem dX12_send_75 : decode cX12_send 75 = .ok (.iload_n 3, 1) := by decide +kernel
theorem dX12_send_76 : decode cX12_send 76 = .ok (.invokevirtual 348, 3) := by decide +kernel
theorem dX12_send_79 : decode cX12_send 79 = .ok (.iconst 1, 1) := by decide +kernel
theorem dX12_send_80 : decode cX12_send 80 = .ok (.istore 4, 2) := by decide +kernel
theorem dX12_send_82 : decode cX12_send 82 = .ok (.iload 4, 2) := by decide +kernel
theorem dX12_send_84 : decode cX12_send 84 = .ok (.aload_n 0, 1) := by decide +kernel
theorem dX12_send_85 : decode cX12_send 85 = .ok (.iload_n 2, 1) := by decide +kernel
theorem dX12_send_86 : decode cX12_send 86 = .ok (.invokevirtual 351, 3) := by decide +kernel
theorem dX12_send_89 : decode cX12_send 89 = .ok (.if_icmp .ge 67, 3) := by decide +kernel
theorem dX12_send_92 : decode cX12_send 92 = .ok (.aload_n 0, 1) := by decide +kernel
theorem dX12_send_93 : decode cX12_send 93 = .ok (.iload_n 2, 1) := by decide +kernel
theorem dX12_send_94 : decode cX12_send 94 = .ok (.iload 4, 2) := by decide +kernel
theorem dX12_send_96 : decode cX12_send 96 = .ok (.invokevirtual 354, 3) := by decide +kernel
theorem dX12_send_99 : decode cX12_send 99 = .ok (.istore 5, 2) := by decide +kernel
theorem dX12_send_101 : decode cX12_send 101 = .ok (.aload_n 0, 1) := by decide +kernel
theorem dX12_send_102 : decode cX12_send 102 = .ok (.iload_n 1, 1) := by decide +kernel
theorem dX12_send_103 : decode cX12_send 103 = .ok (.aload_n 0, 1) := by decide +kernel
theorem dX12_send_104 : decode cX12_send 104 = .ok (.iload_n 2, 1) := by decide +kernel
theorem dX12_send_105 : decode cX12_send 105 = .ok (.iload 4, 2) := by decide +kernel
theorem dX12_send_107 : decode cX12_send 107 = .ok (.iconst 1, 1) := by decide +kernel
theorem dX12_send_108 : decode cX12_send 108 = .ok (.isub, 1) := by decide +kernel
theorem dX12_send_109 : decode cX12_send 109 = .ok (.invokevirtual 354, 3) := by decide +kernel
theorem dX12_send_112 : decode cX12_send 112 = .ok (.iload 5, 2) := by decide +kernel
theorem dX12_send_114 : decode cX12_send 114 = .ok (.invokevirtual 357, 3) := by decide +kernel
theorem dX12_send_117 : decode cX12_send 117 = .ok (.iload 4, 2) := by decide +kernel
theorem dX12_send_119 : decode cX12_send 119 = .ok (.aload_n 0, 1) := by decide +kernel
theorem dX12_send_120 : decode cX12_send 120 = .ok (.iload_n 2, 1) := by decide +kernel
theorem dX12_send_121 : decode cX12_send 121 = .ok (.invokevirtual 351, 3) := by decide +kernel
theorem dX12_send_124 : decode cX12_send 124 = .ok (.iconst 1, 1) := by decide +kernel
theorem dX12_send_125 : decode cX12_send 125 = .ok (.isub, 1) := by decide +kernel
theorem dX12_send_126 : decode cX12_send 126 = .ok (.if_icmp .ge 24, 3) := by decide +kernel
theorem dX12_send_129 : decode cX12_send 129 = .ok (.aload_n 0, 1) := by decide +kernel
theorem dX12_send_130 : decode cX12_send 130 = .ok (.iload_n 1, 1) := by decide +kernel
theorem dX12_send_131 : decode cX12_send 131 = .ok (.iload 5, 2) := by decide +kernel
theorem dX12_send_133 : decode cX12_send 133 = .ok (.invokevirtual 397, 3) := by decide +kernel
theorem dX12_send_136 : decode cX12_send 136 = .ok (.aload_n 0, 1) := by decide +kernel
theorem dX12_send_137 : decode cX12_send 137 = .ok (.iload_n 1, 1) := by decide +kernel
theorem dX12_send_138 : decode cX12_send 138 = .ok (.iload 5, 2) := by decide +kernel
theorem dX12_send_140 : decode cX12_send 140 = .ok (.aload_n 0, 1) := by decide +kernel
theorem dX12_send_141 : decode cX12_send 141 = .ok (.iload_n 1, 1) := by decide +kernel
theorem dX12_send_142 : decode cX12_send 142 = .ok (.iload 5, 2) := by decide +kernel
theorem dX12_send_144 : decode cX12_send 144 = .ok (.invokevirtual 360, 3) := by decide +kernel
theorem dX12_send_147 : decode cX12_send 147 = .ok (.invokevirtual 400, 3) := by decide +kernel
theorem dX12_send_150 : decode cX12_send 150 = .ok (.iinc 4 1, 3) := by decide +kernel
theorem dX12_send_153 : decode cX12_send 153 = .ok (.goto (-71), 3) := by decide +kernel
theorem dX12_send_156 : decode cX12_send 156 = .ok (.aload_n 0, 1) := by decide +kernel
theorem dX12_send_157 : decode cX12_send 157 = .ok (.getfield 127, 3) := by decide +kernel
theorem dX12_send_160 : decode cX12_send 160 = .ok (.bipush 50, 2) := by decide +kernel
theorem dX12_send_162 : decode cX12_send 162 = .ok (.iload_n 1, 1) := by decide +kernel
theorem dX12_send_163 : decode cX12_send 163 = .ok (.iadd, 1) := by decide +kernel
theorem dX12_send_164 : decode cX12_send 164 = .ok (.dup2, 1) := by decide +kernel
theorem dX12_send_165 : decode cX12_send 165 = .ok (.iaload, 1) := by decide +kernel
theorem dX12_send_166 : decode cX12_send 166 = .ok (.aload_n 0, 1) := by decide +kernel
theorem dX12_send_167 : decode cX12_send 167 = .ok (.getfield 330, 3) := by decide +kernel
theorem dX12_send_170 : decode cX12_send 170 = .ok (.aload_n 0, 1) := by decide +kernel
theorem dX12_send_171 : decode cX12_send 171 = .ok (.invokevirtual 403, 3) := by decide +kernel
theorem dX12_send_174 : decode cX12_send 174 = .ok (.imul, 1) := by decide +kernel
theorem dX12_send_175 : decode cX12_send 175 = .ok (.iadd, 1) := by decide +kernel
theorem dX12_send_176 : decode cX12_send 176 = .ok (.iastore, 1) := by decide +kernel
theorem dX12_send_177 : decode cX12_send 177 = .ok (.aload_n 0, 1) := by decide +kernel
theorem dX12_send_178 : decode cX12_send 178 = .ok (.getfield 127, 3) := by decide +kernel
theorem dX12_send_181 : decode cX12_send 181 = .ok (.bipush 38, 2) := by decide +kernel
theorem dX12_send_183 : decode cX12_send 183 = .ok (.dup2, 1) := by decide +kernel
theorem dX12_send_184 : decode cX12_send 184 = .ok (.iaload, 1) := by decide +kernel
theorem dX12_send_185 : decode cX12_send 185 = .ok (.aload_n 0, 1) := by decide +kernel
theorem dX12_send_186 : decode cX12_send 186 = .ok (.getfield 330, 3) := by decide +kernel
theorem dX12_send_189 : decode cX12_send 189 = .ok (.iadd, 1) := by decide +kernel
theorem dX12_send_190 : decode cX12_send 190 = .ok (.iastore, 1) := by decide +kernel
theorem dX12_send_191 : decode cX12_send 191 = .ok (.aload_n 0, 1) := by decide +kernel
theorem dX12_send_192 : decode cX12_send 192 = .ok (.getfield 127, 3) := by decide +kernel
theorem dX12_send_195 : decode cX12_send 195 = .ok (.bipush 40, 2) := by decide +kernel
theorem dX12_send_197 : decode cX12_send 197 = .ok (.dup2, 1) := by decide +kernel
theorem dX12_send_198 : decode cX12_send 198 = .ok (.iaload, 1) := by decide +kernel
theorem dX12_send_199 : decode cX12_send 199 = .ok (.iconst 1, 1) := by decide +kernel
theorem dX12_send_200 : decode cX12_send 200 = .ok (.iadd, 1) := by decide +kernel
theorem dX12_send_201 : decode cX12_send 201 = .ok (.iastore, 1) := by decide +kernel
theorem dX12_send_202 : decode cX12_send 202 = .ok (.aload_n 0, 1) := by decide +kernel
theorem dX12_send_203 : decode cX12_send 203 = .ok (.getfield 330, 3) := by decide +kernel
theorem dX12_send_206 : decode cX12_send 206 = .ok (.ireturn, 1) := by decide +kernel
theorem dX12_rest_0 : decode cX12_rest 0 = .ok (.aload_n 0, 1) := by decide +kernel
theorem dX12_rest_1 : decode cX12_rest 1 = .ok (.iconst 0, 1) := by decide +kernel
theorem dX12_rest_2 : decode cX12_rest 2 = .ok (.putfield 1, 3) := by decide +kernel
theorem dX12_rest_5 : decode cX12_rest 5 = .ok (.aload_n 0, 1) := by decide +kernel
theorem dX12_rest_6 : decode cX12_rest 6 = .ok (.getfield 127, 3) := by decide +kernel
theorem dX12_rest_9 : decode cX12_rest 9 = .ok (.bipush 38, 2) := by decide +kernel
theorem dX12_rest_11 : decode cX12_rest 11 = .ok (.iaload, 1) := by decide +kernel
theorem dX12_rest_12 : decode cX12_rest 12 = .ok (.istore_n 1, 1) := by decide +kernel
theorem dX12_rest_13 : decode cX12_rest 13 = .ok (.aload_n 0, 1) := by decide +kernel
theorem dX12_rest_14 : decode cX12_rest 14 = .ok (.invokevirtual 162, 3) := by decide +kernel
theorem dX12_rest_17 : decode cX12_rest 17 = .ok (.iload_n 1, 1) := by decide +kernel
theorem dX12_rest_18 : decode cX12_rest 18 = .ok (.ireturn, 1) := by decide +kernel
theorem dX12_seed_0 : decode cX12_seed 0 = .ok (.aload_n 0, 1) := by decide +kernel
theorem dX12_seed_1 : decode cX12_seed 1 = .ok (.iconst 0, 1) := by decide +kernel
theorem dX12_seed_2 : decode cX12_seed 2 = .ok (.putfield 1, 3) := by decide +kernel
theorem dX12_seed_5 : decode cX12_seed 5 = .ok (.iload_n 1, 1) := by decide +kernel
theorem dX12_seed_6 : decode cX12_seed 6 = .ok (.iconst 0, 1) := by decide +kernel
theorem dX12_seed_7 : decode cX12_seed 7 = .ok (.sipush 9999, 3) := by decide +kernel
theorem dX12_seed_10 : decode cX12_seed 10 = .ok (.invokestatic 372, 3) := by decide +kernel
theorem dX12_seed_13 : decode cX12_seed 13 = .ok (.ifCond .ne 5, 3) := by decide +kernel
theorem dX12_seed_16 : decode cX12_seed 16 = .ok (.iconst 0, 1) := by decide +kernel
theorem dX12_seed_17 : decode cX12_seed 17 = .ok (.ireturn, 1) := by decide +kernel
theorem dX12_seed_18 : decode cX12_seed 18 = .ok (.aload_n 0, 1) := by decide +kernel
theorem dX12_seed_19 : decode cX12_seed 19 = .ok (.getfield 127, 3) := by decide +kernel
theorem dX12_seed_22 : decode cX12_seed 22 = .ok (.bipush 37, 2) := by decide +kernel
theorem dX12_seed_24 : decode cX12_seed 24 = .ok (.iload_n 1, 1) := by decide +kernel
theorem dX12_seed_25 : decode cX12_seed 25 = .ok (.iastore, 1) := by decide +kernel
theorem dX12_seed_26 : decode cX12_seed 26 = .ok (.iconst 1, 1) := by decide +kernel
theorem dX12_seed_27 : decode cX12_seed 27 = .ok (.ireturn, 1) := by decide +kernel
theorem dX12_drank_0 : decode cX12_drank 0 = .ok (.aload_n 0, 1) := by decide +kernel
theorem dX12_drank_1 : decode cX12_drank 1 = .ok (.iconst 0, 1) := by decide +kernel
theorem dX12_drank_2 : decode cX12_drank 2 = .ok (.putfield 1, 3) := by decide +kernel
theorem dX12_drank_5 : decode cX12_drank 5 = .ok (.iload_n 1, 1) := by decide +kernel
theorem dX12_drank_6 : decode cX12_drank 6 = .ok (.ifCond .lt 39, 3) := by decide +kernel
theorem dX12_drank_9 : decode cX12_drank 9 = .ok (.iload_n 1, 1) := by decide +kernel
theorem dX12_drank_10 : decode cX12_drank 10 = .ok (.aload_n 0, 1) := by decide +kernel
theorem dX12_drank_11 : decode cX12_drank 11 = .ok (.getfield 127, 3) := by decide +kernel
theorem dX12_drank_14 : decode cX12_drank 14 = .ok (.bipush 42, 2) := by decide +kernel
theorem dX12_drank_16 : decode cX12_drank 16 = .ok (.iaload, 1) := by decide +kernel
theorem dX12_drank_17 : decode cX12_drank 17 = .ok (.if_icmp .ge 28, 3) := by decide +kernel
theorem dX12_drank_20 : decode cX12_drank 20 = .ok (.iload_n 2, 1) := by decide +kernel
theorem dX12_drank_21 : decode cX12_drank 21 = .ok (.iconst 0, 1) := by decide +kernel
theorem dX12_drank_22 : decode cX12_drank 22 = .ok (.iconst 2, 1) := by decide +kernel
theorem dX12_drank_23 : decode cX12_drank 23 = .ok (.invokestatic 372, 3) := by decide +kernel
theorem dX12_drank_26 : decode cX12_drank 26 = .ok (.ifCond .eq 19, 3) := by decide +kernel
theorem dX12_drank_29 : decode cX12_drank 29 = .ok (.aload_n 0, 1) := by decide +kernel
theorem dX12_drank_30 : decode cX12_drank 30 = .ok (.getfield 127, 3) := by decide +kernel
theorem dX12_drank_33 : decode cX12_drank 33 = .ok (.bipush 56, 2) := by decide +kernel
theorem dX12_drank_35 : decode cX12_drank 35 = .ok (.iconst 3, 1) := by decide +kernel
theorem dX12_drank_36 : decode cX12_drank 36 = .ok (.iload_n 1, 1) := by decide +kernel
theorem dX12_drank_37 : decode cX12_drank 37 = .ok (.imul, 1) := by decide +kernel
theorem dX12_drank_38 : decode cX12_drank 38 = .ok (.iadd, 1) := by decide +kernel
theorem dX12_drank_39 : decode cX12_drank 39 = .ok (.iload_n 2, 1) := by decide +kernel
theorem dX12_drank_40 : decode cX12_drank 40 = .ok (.iadd, 1) := by decide +kernel
theorem dX12_drank_41 : decode cX12_drank 41 = .ok (.iaload, 1) := by decide +kernel
theorem dX12_drank_42 : decode cX12_drank 42 = .ok (.goto 4, 3) := by decide +kernel
theorem dX12_drank_45 : decode cX12_drank 45 = .ok (.iconst (-1), 1) := by decide +kernel
theorem dX12_drank_46 : decode cX12_drank 46 = .ok (.ireturn, 1) := by decide +kernel
theorem dX12_findBest_0 : decode cX12_findBest 0 = .ok (.aload_n 0, 1) := by decide +kernel
theorem dX12_findBest_1 : decode cX12_findBest 1 = .ok (.iconst (-1), 1) := by decide +kernel
theorem dX12_findBest_2 : decode cX12_findBest 2 = .ok (.putfield 406, 3) := by decide +kernel
theorem dX12_findBest_5 : decode cX12_findBest 5 = .ok (.aload_n 0, 1) := by decide +kernel
theorem dX12_findBest_6 : decode cX12_findBest 6 = .ok (.iconst (-1), 1) := by decide +kernel
theorem dX12_findBest_7 : decode cX12_findBest 7 = .ok (.putfield 409, 3) := by decide +kernel
theorem dX12_findBest_10 : decode cX12_findBest 10 = .ok (.iconst 0, 1) := by decide +kernel
theorem dX12_findBest_11 : decode cX12_findBest 11 = .ok (.istore_n 3, 1) := by decide +kernel
theorem dX12_findBest_12 : decode cX12_findBest 12 = .ok (.iload_n 3, 1) := by decide +kernel
theorem dX12_findBest_13 : decode cX12_findBest 13 = .ok (.aload_n 0, 1) := by decide +kernel
theorem dX12_findBest_14 : decode cX12_findBest 14 = .ok (.getfield 318, 3) := by decide +kernel
theorem dX12_findBest_17 : decode cX12_findBest 17 = .ok (.if_icmp .ge 53, 3) := by decide +kernel
theorem dX12_findBest_20 : decode cX12_findBest 20 = .ok (.aload_n 0, 1) := by decide +kernel
theorem dX12_findBest_21 : decode cX12_findBest 21 = .ok (.iload_n 1, 1) := by decide +kernel
theorem dX12_findBest_22 : decode cX12_findBest 22 = .ok (.iload_n 3, 1) := by decide +kernel
theorem dX12_findBest_23 : decode cX12_findBest 23 = .ok (.iload_n 2, 1) := by decide +kernel
theorem dX12_findBest_24 : decode cX12_findBest 24 = .ok (.invokevirtual 383, 3) := by decide +kernel
theorem dX12_findBest_27 : decode cX12_findBest 27 = .ok (.aload_n 0, 1) := by decide +kernel
theorem dX12_findBest_28 : decode cX12_findBest 28 = .ok (.getfield 336, 3) := by decide +kernel
theorem dX12_findBest_31 : decode cX12_findBest 31 = .ok (.aload_n 0, 1) := by decide +kernel
theorem dX12_findBest_32 : decode cX12_findBest 32 = .ok (.getfield 97, 3) := by decide +kernel
theorem dX12_findBest_35 : decode cX12_findBest 35 = .ok (.iconst 5, 1) := by decide +kernel
theorem dX12_findBest_36 : decode cX12_findBest 36 = .ok (.iaload, 1) := by decide +kernel
theorem dX12_findBest_37 : decode cX12_findBest 37 = .ok (.if_icmp .gt 27, 3) := by decide +kernel
theorem dX12_findBest_40 : decode cX12_findBest 40 = .ok (.aload_n 0, 1) := by decide +kernel
theorem dX12_findBest_41 : decode cX12_findBest 41 = .ok (.getfield 330, 3) := by decide +kernel
theorem dX12_findBest_44 : decode cX12_findBest 44 = .ok (.aload_n 0, 1) := by decide +kernel
theorem dX12_findBest_45 : decode cX12_findBest 45 = .ok (.getfield 409, 3) := by decide +kernel
theorem dX12_findBest_48 : decode cX12_findBest 48 = .ok (.if_icmp .le 16, 3) := by decide +kernel
theorem dX12_findBest_51 : decode cX12_findBest 51 = .ok (.aload_n 0, 1) := by decide +kernel
theorem dX12_findBest_52 : decode cX12_findBest 52 = .ok (.aload_n 0, 1) := by decide +kernel
theorem dX12_findBest_53 : decode cX12_findBest 53 = .ok (.getfield 330, 3) := by decide +kernel
theorem dX12_findBest_56 : decode cX12_findBest 56 = .ok (.putfield 409, 3) := by decide +kernel
theorem dX12_findBest_59 : decode cX12_findBest 59 = .ok (.aload_n 0, 1) := by decide +kernel
theorem dX12_findBest_60 : decode cX12_findBest 60 = .ok (.iload_n 3, 1) := by decide +kernel
theorem dX12_findBest_61 : decode cX12_findBest 61 = .ok (.putfield 406, 3) := by decide +kernel
theorem dX12_findBest_64 : decode cX12_findBest 64 = .ok (.iinc 3 1, 3) := by decide +kernel
theorem dX12_findBest_67 : decode cX12_findBest 67 = .ok (.goto (-55), 3) := by decide +kernel
theorem dX12_findBest_70 : decode cX12_findBest 70 = .ok (.aload_n 0, 1) := by decide +kernel
theorem dX12_findBest_71 : decode cX12_findBest 71 = .ok (.getfield 406, 3) := by decide +kernel
theorem dX12_findBest_74 : decode cX12_findBest 74 = .ok (.ifCond .lt 7, 3) := by decide +kernel
theorem dX12_findBest_77 : decode cX12_findBest 77 = .ok (.iconst 1, 1) := by decide +kernel
theorem dX12_findBest_78 : decode cX12_findBest 78 = .ok (.goto 4, 3) := by decide +kernel
theorem dX12_findBest_81 : decode cX12_findBest 81 = .ok (.iconst 0, 1) := by decide +kernel
theorem dX12_findBest_82 : decode cX12_findBest 82 = .ok (.ireturn, 1) := by decide +kernel
theorem dX12_best_0 : decode cX12_best 0 = .ok (.aload_n 0, 1) := by decide +kernel
theorem dX12_best_1 : decode cX12_best 1 = .ok (.iconst 0, 1) := by decide +kernel
theorem dX12_best_2 : decode cX12_best 2 = .ok (.putfield 1, 3) := by decide +kernel
theorem dX12_best_5 : decode cX12_best 5 = .ok (.aload_n 0, 1) := by decide +kernel
theorem dX12_best_6 : decode cX12_best 6 = .ok (.iload_n 1, 1) := by decide +kernel
theorem dX12_best_7 : decode cX12_best 7 = .ok (.iload_n 2, 1) := by decide +kernel
theorem dX12_best_8 : decode cX12_best 8 = .ok (.invokevirtual 379, 3) := by decide +kernel
theorem dX12_best_11 : decode cX12_best 11 = .ok (.ifCond .eq 21, 3) := by decide +kernel
theorem dX12_best_14 : decode cX12_best 14 = .ok (.iload_n 3, 1) := by decide +kernel
theorem dX12_best_15 : decode cX12_best 15 = .ok (.iconst 0, 1) := by decide +kernel
theorem dX12_best_16 : decode cX12_best 16 = .ok (.iconst 1, 1) := by decide +kernel
theorem dX12_best_17 : decode cX12_best 17 = .ok (.invokestatic 372, 3) := by decide +kernel
theorem dX12_best_20 : decode cX12_best 20 = .ok (.ifCond .eq 12, 3) := by decide +kernel
theorem dX12_best_23 : decode cX12_best 23 = .ok (.aload_n 0, 1) := by decide +kernel
theorem dX12_best_24 : decode cX12_best 24 = .ok (.iload_n 1, 1) := by decide +kernel
theorem dX12_best_25 : decode cX12_best 25 = .ok (.iload_n 2, 1) := by decide +kernel
theorem dX12_best_26 : decode cX12_best 26 = .ok (.invokevirtual 412, 3) := by decide +kernel
theorem dX12_best_29 : decode cX12_best 29 = .ok (.ifCond .ne 5, 3) := by decide +kernel
theorem dX12_best_32 : decode cX12_best 32 = .ok (.iconst (-1), 1) := by decide +kernel
theorem dX12_best_33 : decode cX12_best 33 = .ok (.ireturn, 1) := by decide +kernel
theorem dX12_best_34 : decode cX12_best 34 = .ok (.iload_n 3, 1) := by decide +kernel
theorem dX12_best_35 : decode cX12_best 35 = .ok (.ifCond .ne 10, 3) := by decide +kernel
theorem dX12_best_38 : decode cX12_best 38 = .ok (.aload_n 0, 1) := by decide +kernel
theorem dX12_best_39 : decode cX12_best 39 = .ok (.getfield 406, 3) := by decide +kernel
theorem dX12_best_42 : decode cX12_best 42 = .ok (.goto 7, 3) := by decide +kernel
theorem dX12_best_45 : decode cX12_best 45 = .ok (.aload_n 0, 1) := by decide +kernel
theorem dX12_best_46 : decode cX12_best 46 = .ok (.getfield 409, 3) := by decide +kernel
theorem dX12_best_49 : decode cX12_best 49 = .ok (.ireturn, 1) := by decide +kernel
theorem dX12_findPlan_0 : decode cX12_findPlan 0 = .ok (.iconst 0, 1) := by decide +kernel
theorem dX12_findPlan_1 : decode cX12_findPlan 1 = .ok (.istore_n 1, 1) := by decide +kernel
theorem dX12_findPlan_2 : decode cX12_findPlan 2 = .ok (.iload_n 1, 1) := by decide +kernel
theorem dX12_findPlan_3 : decode cX12_findPlan 3 = .ok (.aload_n 0, 1) := by decide +kernel
theorem dX12_findPlan_4 : decode cX12_findPlan 4 = .ok (.invokevirtual 312, 3) := by decide +kernel
theorem dX12_findPlan_7 : decode cX12_findPlan 7 = .ok (.if_icmp .ge 62, 3) := by decide +kernel
theorem dX12_findPlan_10 : decode cX12_findPlan 10 = .ok (.iconst 0, 1) := by decide +kernel
theorem dX12_findPlan_11 : decode cX12_findPlan 11 = .ok (.istore_n 2, 1) := by decide +kernel
theorem dX12_findPlan_12 : decode cX12_findPlan 12 = .ok (.iload_n 2, 1) := by decide +kernel
theorem dX12_findPlan_13 : decode cX12_findPlan 13 = .ok (.aload_n 0, 1) := by decide +kernel
theorem dX12_findPlan_14 : decode cX12_findPlan 14 = .ok (.iload_n 1, 1) := by decide +kernel
theorem dX12_findPlan_15 : decode cX12_findPlan 15 = .ok (.invokevirtual 366, 3) := by decide +kernel
theorem dX12_findPlan_18 : decode cX12_findPlan 18 = .ok (.if_icmp .gt 45, 3) := by decide +kernel
theorem dX12_findPlan_21 : decode cX12_findPlan 21 = .ok (.aload_n 0, 1) := by decide +kernel
theorem dX12_findPlan_22 : decode cX12_findPlan 22 = .ok (.getfield 140, 3) := by decide +kernel
theorem dX12_findPlan_25 : decode cX12_findPlan 25 = .ok (.bipush 121, 2) := by decide +kernel
theorem dX12_findPlan_27 : decode cX12_findPlan 27 = .ok (.iload_n 1, 1) := by decide +kernel
theorem dX12_findPlan_28 : decode cX12_findPlan 28 = .ok (.imul, 1) := by decide +kernel
theorem dX12_findPlan_29 : decode cX12_findPlan 29 = .ok (.iload_n 2, 1) := by decide +kernel
theorem dX12_findPlan_30 : decode cX12_findPlan 30 = .ok (.iadd, 1) := by decide +kernel
theorem dX12_findPlan_31 : decode cX12_findPlan 31 = .ok (.iload_n 2, 1) := by decide +kernel
theorem dX12_findPlan_32 : decode cX12_findPlan 32 = .ok (.ifCond .ne 7, 3) := by decide +kernel
theorem dX12_findPlan_35 : decode cX12_findPlan 35 = .ok (.iconst 0, 1) := by decide +kernel
theorem dX12_findPlan_36 : decode cX12_findPlan 36 = .ok (.goto 20, 3) := by decide +kernel
theorem dX12_findPlan_39 : decode cX12_findPlan 39 = .ok (.aload_n 0, 1) := by decide +kernel
theorem dX12_findPlan_40 : decode cX12_findPlan 40 = .ok (.iload_n 1, 1) := by decide +kernel
theorem dX12_findPlan_41 : decode cX12_findPlan 41 = .ok (.iload_n 2, 1) := by decide +kernel
theorem dX12_findPlan_42 : decode cX12_findPlan 42 = .ok (.invokevirtual 412, 3) := by decide +kernel
theorem dX12_findPlan_45 : decode cX12_findPlan 45 = .ok (.ifCond .eq 10, 3) := by decide +kernel
theorem dX12_findPlan_48 : decode cX12_findPlan 48 = .ok (.aload_n 0, 1) := by decide +kernel
theorem dX12_findPlan_49 : decode cX12_findPlan 49 = .ok (.getfield 409, 3) := by decide +kernel
theorem dX12_findPlan_52 : decode cX12_findPlan 52 = .ok (.goto 4, 3) := by decide +kernel
theorem dX12_findPlan_55 : decode cX12_findPlan 55 = .ok (.iconst (-1), 1) := by decide +kernel
theorem dX12_findPlan_56 : decode cX12_findPlan 56 = .ok (.iastore, 1) := by decide +kernel
theorem dX12_findPlan_57 : decode cX12_findPlan 57 = .ok (.iinc 2 1, 3) := by decide +kernel
theorem dX12_findPlan_60 : decode cX12_findPlan 60 = .ok (.goto (-48), 3) := by decide +kernel
theorem dX12_findPlan_63 : decode cX12_findPlan 63 = .ok (.iinc 1 1, 3) := by decide +kernel
theorem dX12_findPlan_66 : decode cX12_findPlan 66 = .ok (.goto (-64), 3) := by decide +kernel
theorem dX12_findPlan_69 : decode cX12_findPlan 69 = .ok (.iconst 0, 1) := by decide +kernel
theorem dX12_findPlan_70 : decode cX12_findPlan 70 = .ok (.istore_n 1, 1) := by decide +kernel
theorem dX12_findPlan_71 : decode cX12_findPlan 71 = .ok (.iload_n 1, 1) := by decide +kernel
theorem dX12_findPlan_72 : decode cX12_findPlan 72 = .ok (.sipush 201, 3) := by decide +kernel
theorem dX12_findPlan_75 : decode cX12_findPlan 75 = .ok (.if_icmp .ge 25, 3) := by decide +kernel
theorem dX12_findPlan_78 : decode cX12_findPlan 78 = .ok (.aload_n 0, 1) := by decide +kernel
theorem dX12_findPlan_79 : decode cX12_findPlan 79 = .ok (.getfield 143, 3) := by decide +kernel
theorem dX12_findPlan_82 : decode cX12_findPlan 82 = .ok (.sipush 201, 3) := by decide +kernel
theorem dX12_findPlan_85 : decode cX12_findPlan 85 = .ok (.aload_n 0, 1) := by decide +kernel
theorem dX12_findPlan_86 : decode cX12_findPlan 86 = .ok (.invokevirtual 312, 3) := by decide +kernel
theorem dX12_findPlan_89 : decode cX12_findPlan 89 = .ok (.imul, 1) := by decide +kernel
theorem dX12_findPlan_90 : decode cX12_findPlan 90 = .ok (.iload_n 1, 1) := by decide +kernel
theorem dX12_findPlan_91 : decode cX12_findPlan 91 = .ok (.iadd, 1) := by decide +kernel
theorem dX12_findPlan_92 : decode cX12_findPlan 92 = .ok (.iconst 0, 1) := by decide +kernel
theorem dX12_findPlan_93 : decode cX12_findPlan 93 = .ok (.iastore, 1) := by decide +kernel
theorem dX12_findPlan_94 : decode cX12_findPlan 94 = .ok (.iinc 1 1, 3) := by decide +kernel
theorem dX12_findPlan_97 : decode cX12_findPlan 97 = .ok (.goto (-26), 3) := by decide +kernel
theorem dX12_findPlan_100 : decode cX12_findPlan 100 = .ok (.aload_n 0, 1) := by decide +kernel
theorem dX12_findPlan_101 : decode cX12_findPlan 101 = .ok (.invokevirtual 312, 3) := by decide +kernel
theorem dX12_findPlan_104 : decode cX12_findPlan 104 = .ok (.iconst 1, 1) := by decide +kernel
theorem dX12_findPlan_105 : decode cX12_findPlan 105 = .ok (.isub, 1) := by decide +kernel
theorem dX12_findPlan_106 : decode cX12_findPlan 106 = .ok (.istore_n 1, 1) := by decide +kernel
theorem dX12_findPlan_107 : decode cX12_findPlan 107 = .ok (.iload_n 1, 1) := by decide +kernel
theorem dX12_findPlan_108 : decode cX12_findPlan 108 = .ok (.ifCond .lt 128, 3) := by decide +kernel
theorem dX12_findPlan_111 : decode cX12_findPlan 111 = .ok (.iconst 0, 1) := by decide +kernel
theorem dX12_findPlan_112 : decode cX12_findPlan 112 = .ok (.istore_n 2, 1) := by decide +kernel
theorem dX12_findPlan_113 : decode cX12_findPlan 113 = .ok (.iload_n 2, 1) := by decide +kernel
theorem dX12_findPlan_114 : decode cX12_findPlan 114 = .ok (.sipush 201, 3) := by decide +kernel
theorem dX12_findPlan_117 : decode cX12_findPlan 117 = .ok (.if_icmp .ge 113, 3) := by decide +kernel
theorem dX12_findPlan_120 : decode cX12_findPlan 120 = .ok (.iconst 0, 1) := by decide +kernel
theorem dX12_findPlan_121 : decode cX12_findPlan 121 = .ok (.istore_n 3, 1) := by decide +kernel
theorem dX12_findPlan_122 : decode cX12_findPlan 122 = .ok (.iconst 0, 1) := by decide +kernel
theorem dX12_findPlan_123 : decode cX12_findPlan 123 = .ok (.istore 4, 2) := by decide +kernel
theorem dX12_findPlan_125 : decode cX12_findPlan 125 = .ok (.iload 4, 2) := by decide +kernel
theorem dX12_findPlan_127 : decode cX12_findPlan 127 = .ok (.aload_n 0, 1) := by decide +kernel
theorem dX12_findPlan_128 : decode cX12_findPlan 128 = .ok (.iload_n 1, 1) := by decide +kernel
theorem dX12_findPlan_129 : decode cX12_findPlan 129 = .ok (.invokevirtual 366, 3) := by decide +kernel
theorem dX12_findPlan_132 : decode cX12_findPlan 132 = .ok (.if_icmp .gt 79, 3) := by decide +kernel
theorem dX12_findPlan_135 : decode cX12_findPlan 135 = .ok (.iload 4, 2) := by decide +kernel
theorem dX12_findPlan_137 : decode cX12_findPlan 137 = .ok (.iload_n 2, 1) := by decide +kernel
theorem dX12_findPlan_138 : decode cX12_findPlan 138 = .ok (.if_icmp .gt 73, 3) := by decide +kernel
theorem dX12_findPlan_141 : decode cX12_findPlan 141 = .ok (.aload_n 0, 1) := by decide +kernel
theorem dX12_findPlan_142 : decode cX12_findPlan 142 = .ok (.getfield 140, 3) := by decide +kernel
theorem dX12_findPlan_145 : decode cX12_findPlan 145 = .ok (.bipush 121, 2) := by decide +kernel
theorem dX12_findPlan_147 : decode cX12_findPlan 147 = .ok (.iload_n 1, 1) := by decide +kernel
theorem dX12_findPlan_148 : decode cX12_findPlan 148 = .ok (.imul, 1) := by decide +kernel
theorem dX12_findPlan_149 : decode cX12_findPlan 149 = .ok (.iload 4, 2) := by decide +kernel
theorem dX12_findPlan_151 : decode cX12_findPlan 151 = .ok (.iadd, 1) := by decide +kernel
theorem dX12_findPlan_152 : decode cX12_findPlan 152 = .ok (.iaload, 1) := by decide +kernel
theorem dX12_findPlan_153 : decode cX12_findPlan 153 = .ok (.ifCond .ge 7, 3) := by decide +kernel
theorem dX12_findPlan_156 : decode cX12_findPlan 156 = .ok (.iconst (-1), 1) := by decide +kernel
theorem dX12_findPlan_157 : decode cX12_findPlan 157 = .ok (.goto 33, 3) := by decide +kernel
theorem dX12_findPlan_160 : decode cX12_findPlan 160 = .ok (.aload_n 0, 1) := by decide +kernel
theorem dX12_findPlan_161 : decode cX12_findPlan 161 = .ok (.getfield 140, 3) := by decide +kernel
theorem dX12_findPlan_164 : decode cX12_findPlan 164 = .ok (.bipush 121, 2) := by decide +kernel
theorem dX12_findPlan_166 : decode cX12_findPlan 166 = .ok (.iload_n 1, 1) := by decide +kernel
theorem dX12_findPlan_167 : decode cX12_findPlan 167 = .ok (.imul, 1) := by decide +kernel
theorem dX12_findPlan_168 : decode cX12_findPlan 168 = .ok (.iload 4, 2) := by decide +kernel
theorem dX12_findPlan_170 : decode cX12_findPlan 170 = .ok (.iadd, 1) := by decide +kernel
theorem dX12_findPlan_171 : decode cX12_findPlan 171 = .ok (.iaload, 1) := by decide +kernel
theorem dX12_findPlan_172 : decode cX12_findPlan 172 = .ok (.aload_n 0, 1) := by decide +kernel
theorem dX12_findPlan_173 : decode cX12_findPlan 173 = .ok (.getfield 143, 3) := by decide +kernel
theorem dX12_findPlan_176 : decode cX12_findPlan 176 = .ok (.sipush 201, 3) := by decide +kernel
theorem dX12_findPlan_179 : decode cX12_findPlan 179 = .ok (.iload_n 1, 1) := by decide +kernel
theorem dX12_findPlan_180 : decode cX12_findPlan 180 = .ok (.iconst 1, 1) := by decide +kernel
theorem dX12_findPlan_181 : decode cX12_findPlan 181 = .ok (.iadd, 1) := by decide +kernel
theorem dX12_findPlan_182 : decode cX12_findPlan 182 = .ok (.imul, 1) := by decide +kernel
theorem dX12_findPlan_183 : decode cX12_findPlan 183 = .ok (.iload_n 2, 1) := by decide +kernel
theorem dX12_findPlan_184 : decode cX12_findPlan 184 = .ok (.iadd, 1) := by decide +kernel
theorem dX12_findPlan_185 : decode cX12_findPlan 185 = .ok (.iload 4, 2) := by decide +kernel
theorem dX12_findPlan_187 : decode cX12_findPlan 187 = .ok (.isub, 1) := by decide +kernel
theorem dX12_findPlan_188 : decode cX12_findPlan 188 = .ok (.iaload, 1) := by decide +kernel
theorem dX12_findPlan_189 : decode cX12_findPlan 189 = .ok (.iadd, 1) := by decide +kernel
theorem dX12_findPlan_190 : decode cX12_findPlan 190 = .ok (.istore 5, 2) := by decide +kernel
theorem dX12_findPlan_192 : decode cX12_findPlan 192 = .ok (.iload 5, 2) := by decide +kernel
theorem dX12_findPlan_194 : decode cX12_findPlan 194 = .ok (.iload_n 3, 1) := by decide +kernel
theorem dX12_findPlan_195 : decode cX12_findPlan 195 = .ok (.if_icmp .le 8, 3) := by decide +kernel
theorem dX12_findPlan_198 : decode cX12_findPlan 198 = .ok (.iload 5, 2) := by decide +kernel
theorem dX12_findPlan_200 : decode cX12_findPlan 200 = .ok (.goto 4, 3) := by decide +kernel
theorem dX12_findPlan_203 : decode cX12_findPlan 203 = .ok (.iload_n 3, 1) := by decide +kernel
theorem dX12_findPlan_204 : decode cX12_findPlan 204 = .ok (.istore_n 3, 1) := by decide +kernel
theorem dX12_findPlan_205 : decode cX12_findPlan 205 = .ok (.iinc 4 1, 3) := by decide +kernel
theorem dX12_findPlan_208 : decode cX12_findPlan 208 = .ok (.goto (-83), 3) := by decide +kernel
theorem dX12_findPlan_211 : decode cX12_findPlan 211 = .ok (.aload_n 0, 1) := by decide +kernel
theorem dX12_findPlan_212 : decode cX12_findPlan 212 = .ok (.getfield 143, 3) := by decide +kernel
theorem dX12_findPlan_215 : decode cX12_findPlan 215 = .ok (.sipush 201, 3) := by decide +kernel
theorem dX12_findPlan_218 : decode cX12_findPlan 218 = .ok (.iload_n 1, 1) := by decide +kernel
theorem dX12_findPlan_219 : decode cX12_findPlan 219 = .ok (.imul, 1) := by decide +kernel
theorem dX12_findPlan_220 : decode cX12_findPlan 220 = .ok (.iload_n 2, 1) := by decide +kernel
theorem dX12_findPlan_221 : decode cX12_findPlan 221 = .ok (.iadd, 1) := by decide +kernel
theorem dX12_findPlan_222 : decode cX12_findPlan 222 = .ok (.iload_n 3, 1) := by decide +kernel
theorem dX12_findPlan_223 : decode cX12_findPlan 223 = .ok (.iastore, 1) := by decide +kernel
theorem dX12_findPlan_224 : decode cX12_findPlan 224 = .ok (.iinc 2 1, 3) := by decide +kernel
theorem dX12_findPlan_227 : decode cX12_findPlan 227 = .ok (.goto (-114), 3) := by decide +kernel
theorem dX12_findPlan_230 : decode cX12_findPlan 230 = .ok (.iinc 1 (-1), 3) := by decide +kernel
theorem dX12_findPlan_233 : decode cX12_findPlan 233 = .ok (.goto (-126), 3) := by decide +kernel
theorem dX12_findPlan_236 : decode cX12_findPlan 236 = .ok (.aload_n 0, 1) := by decide +kernel
theorem dX12_findPlan_237 : decode cX12_findPlan 237 = .ok (.getfield 97, 3) := by decide +kernel
theorem dX12_findPlan_240 : decode cX12_findPlan 240 = .ok (.iconst 4, 1) := by decide +kernel
theorem dX12_findPlan_241 : decode cX12_findPlan 241 = .ok (.iaload, 1) := by decide +kernel
theorem dX12_findPlan_242 : decode cX12_findPlan 242 = .ok (.istore_n 1, 1) := by decide +kernel
theorem dX12_findPlan_243 : decode cX12_findPlan 243 = .ok (.iconst 0, 1) := by decide +kernel
theorem dX12_findPlan_244 : decode cX12_findPlan 244 = .ok (.istore_n 2, 1) := by decide +kernel
theorem dX12_findPlan_245 : decode cX12_findPlan 245 = .ok (.iload_n 2, 1) := by decide +kernel
theorem dX12_findPlan_246 : decode cX12_findPlan 246 = .ok (.aload_n 0, 1) := by decide +kernel
theorem dX12_findPlan_247 : decode cX12_findPlan 247 = .ok (.invokevirtual 312, 3) := by decide +kernel
theorem dX12_findPlan_250 : decode cX12_findPlan 250 = .ok (.if_icmp .ge 85, 3) := by decide +kernel
theorem dX12_findPlan_253 : decode cX12_findPlan 253 = .ok (.iconst 0, 1) := by decide +kernel
theorem dX12_findPlan_254 : decode cX12_findPlan 254 = .ok (.istore_n 3, 1) := by decide +kernel
theorem dX12_findPlan_255 : decode cX12_findPlan 255 = .ok (.aload_n 0, 1) := by decide +kernel
theorem dX12_findPlan_256 : decode cX12_findPlan 256 = .ok (.getfield 140, 3) := by decide +kernel
theorem dX12_findPlan_259 : decode cX12_findPlan 259 = .ok (.bipush 121, 2) := by decide +kernel
theorem dX12_findPlan_261 : decode cX12_findPlan 261 = .ok (.iload_n 2, 1) := by decide +kernel
theorem dX12_findPlan_262 : decode cX12_findPlan 262 = .ok (.imul, 1) := by decide +kernel
theorem dX12_findPlan_263 : decode cX12_findPlan 263 = .ok (.iload_n 3, 1) := by decide +kernel
theorem dX12_findPlan_264 : decode cX12_findPlan 264 = .ok (.iadd, 1) := by decide +kernel
theorem dX12_findPlan_265 : decode cX12_findPlan 265 = .ok (.iaload, 1) := by decide +kernel
theorem dX12_findPlan_266 : decode cX12_findPlan 266 = .ok (.ifCond .lt 46, 3) := by decide +kernel
theorem dX12_findPlan_269 : decode cX12_findPlan 269 = .ok (.aload_n 0, 1) := by decide +kernel
theorem dX12_findPlan_270 : decode cX12_findPlan 270 = .ok (.getfield 140, 3) := by decide +kernel
theorem dX12_findPlan_273 : decode cX12_findPlan 273 = .ok (.bipush 121, 2) := by decide +kernel
theorem dX12_findPlan_275 : decode cX12_findPlan 275 = .ok (.iload_n 2, 1) := by decide +kernel
theorem dX12_findPlan_276 : decode cX12_findPlan 276 = .ok (.imul, 1) := by decide +kernel
theorem dX12_findPlan_277 : decode cX12_findPlan 277 = .ok (.iload_n 3, 1) := by decide +kernel
theorem dX12_findPlan_278 : decode cX12_findPlan 278 = .ok (.iadd, 1) := by decide +kernel
theorem dX12_findPlan_279 : decode cX12_findPlan 279 = .ok (.iaload, 1) := by decide +kernel
theorem dX12_findPlan_280 : decode cX12_findPlan 280 = .ok (.aload_n 0, 1) := by decide +kernel
theorem dX12_findPlan_281 : decode cX12_findPlan 281 = .ok (.getfield 143, 3) := by decide +kernel
theorem dX12_findPlan_284 : decode cX12_findPlan 284 = .ok (.sipush 201, 3) := by decide +kernel
theorem dX12_findPlan_287 : decode cX12_findPlan 287 = .ok (.iload_n 2, 1) := by decide +kernel
theorem dX12_findPlan_288 : decode cX12_findPlan 288 = .ok (.iconst 1, 1) := by decide +kernel
theorem dX12_findPlan_289 : decode cX12_findPlan 289 = .ok (.iadd, 1) := by decide +kernel
theorem dX12_findPlan_290 : decode cX12_findPlan 290 = .ok (.imul, 1) := by decide +kernel
theorem dX12_findPlan_291 : decode cX12_findPlan 291 = .ok (.iload_n 1, 1) := by decide +kernel
theorem dX12_findPlan_292 : decode cX12_findPlan 292 = .ok (.iadd, 1) := by decide +kernel
theorem dX12_findPlan_293 : decode cX12_findPlan 293 = .ok (.iload_n 3, 1) := by decide +kernel
theorem dX12_findPlan_294 : decode cX12_findPlan 294 = .ok (.isub, 1) := by decide +kernel
theorem dX12_findPlan_295 : decode cX12_findPlan 295 = .ok (.iaload, 1) := by decide +kernel
theorem dX12_findPlan_296 : decode cX12_findPlan 296 = .ok (.iadd, 1) := by decide +kernel
theorem dX12_findPlan_297 : decode cX12_findPlan 297 = .ok (.aload_n 0, 1) := by decide +kernel
theorem dX12_findPlan_298 : decode cX12_findPlan 298 = .ok (.getfield 143, 3) := by decide +kernel
theorem dX12_findPlan_301 : decode cX12_findPlan 301 = .ok (.sipush 201, 3) := by decide +kernel
theorem dX12_findPlan_304 : decode cX12_findPlan 304 = .ok (.iload_n 2, 1) := by decide +kernel
theorem dX12_findPlan_305 : decode cX12_findPlan 305 = .ok (.imul, 1) := by decide +kernel
theorem dX12_findPlan_306 : decode cX12_findPlan 306 = .ok (.iload_n 1, 1) := by decide +kernel
theorem dX12_findPlan_307 : decode cX12_findPlan 307 = .ok (.iadd, 1) := by decide +kernel
theorem dX12_findPlan_308 : decode cX12_findPlan 308 = .ok (.iaload, 1) := by decide +kernel
theorem dX12_findPlan_309 : decode cX12_findPlan 309 = .ok (.if_icmp .eq 9, 3) := by decide +kernel
theorem dX12_findPlan_312 : decode cX12_findPlan 312 = .ok (.iinc 3 1, 3) := by decide +kernel
theorem dX12_findPlan_315 : decode cX12_findPlan 315 = .ok (.goto (-60), 3) := by decide +kernel
theorem dX12_findPlan_318 : decode cX12_findPlan 318 = .ok (.aload_n 0, 1) := by decide +kernel
theorem dX12_findPlan_319 : decode cX12_findPlan 319 = .ok (.getfield 146, 3) := by decide +kernel
theorem dX12_findPlan_322 : decode cX12_findPlan 322 = .ok (.iload_n 2, 1) := by decide +kernel
theorem dX12_findPlan_323 : decode cX12_findPlan 323 = .ok (.iload_n 3, 1) := by decide +kernel
theorem dX12_findPlan_324 : decode cX12_findPlan 324 = .ok (.iastore, 1) := by decide +kernel
theorem dX12_findPlan_325 : decode cX12_findPlan 325 = .ok (.iload_n 1, 1) := by decide +kernel
theorem dX12_findPlan_326 : decode cX12_findPlan 326 = .ok (.iload_n 3, 1) := by decide +kernel
theorem dX12_findPlan_327 : decode cX12_findPlan 327 = .ok (.isub, 1) := by decide +kernel
theorem dX12_findPlan_328 : decode cX12_findPlan 328 = .ok (.istore_n 1, 1) := by decide +kernel
theorem dX12_findPlan_329 : decode cX12_findPlan 329 = .ok (.iinc 2 1, 3) := by decide +kernel
theorem dX12_findPlan_332 : decode cX12_findPlan 332 = .ok (.goto (-87), 3) := by decide +kernel
theorem dX12_findPlan_335 : decode cX12_findPlan 335 = .ok (.return_, 1) := by decide +kernel
theorem dX12_plan_0 : decode cX12_plan 0 = .ok (.aload_n 0, 1) := by decide +kernel
theorem dX12_plan_1 : decode cX12_plan 1 = .ok (.iconst 0, 1) := by decide +kernel
theorem dX12_plan_2 : decode cX12_plan 2 = .ok (.putfield 1, 3) := by decide +kernel
theorem dX12_plan_5 : decode cX12_plan 5 = .ok (.iload_n 1, 1) := by decide +kernel
theorem dX12_plan_6 : decode cX12_plan 6 = .ok (.iconst (-1), 1) := by decide +kernel
theorem dX12_plan_7 : decode cX12_plan 7 = .ok (.if_icmp .lt 13, 3) := by decide +kernel
theorem dX12_plan_10 : decode cX12_plan 10 = .ok (.iload_n 1, 1) := by decide +kernel
theorem dX12_plan_11 : decode cX12_plan 11 = .ok (.iconst 2, 1) := by decide +kernel
theorem dX12_plan_12 : decode cX12_plan 12 = .ok (.aload_n 0, 1) := by decide +kernel
theorem dX12_plan_13 : decode cX12_plan 13 = .ok (.invokevirtual 312, 3) := by decide +kernel
theorem dX12_plan_16 : decode cX12_plan 16 = .ok (.imul, 1) := by decide +kernel
theorem dX12_plan_17 : decode cX12_plan 17 = .ok (.if_icmp .lt 6, 3) := by decide +kernel
theorem dX12_plan_20 : decode cX12_plan 20 = .ok (.bipush (-2), 2) := by decide +kernel
theorem dX12_plan_22 : decode cX12_plan 22 = .ok (.ireturn, 1) := by decide +kernel
theorem dX12_plan_23 : decode cX12_plan 23 = .ok (.aload_n 0, 1) := by decide +kernel
theorem dX12_plan_24 : decode cX12_plan 24 = .ok (.invokevirtual 415, 3) := by decide +kernel
theorem dX12_plan_27 : decode cX12_plan 27 = .ok (.iload_n 1, 1) := by decide +kernel
theorem dX12_plan_28 : decode cX12_plan 28 = .ok (.iconst (-1), 1) := by decide +kernel
theorem dX12_plan_29 : decode cX12_plan 29 = .ok (.if_icmp .ne 15, 3) := by decide +kernel
theorem dX12_plan_32 : decode cX12_plan 32 = .ok (.aload_n 0, 1) := by decide +kernel
theorem dX12_plan_33 : decode cX12_plan 33 = .ok (.getfield 143, 3) := by decide +kernel
theorem dX12_plan_36 : decode cX12_plan 36 = .ok (.aload_n 0, 1) := by decide +kernel
theorem dX12_plan_37 : decode cX12_plan 37 = .ok (.getfield 97, 3) := by decide +kernel
theorem dX12_plan_40 : decode cX12_plan 40 = .ok (.iconst 4, 1) := by decide +kernel
theorem dX12_plan_41 : decode cX12_plan 41 = .ok (.iaload, 1) := by decide +kernel
theorem dX12_plan_42 : decode cX12_plan 42 = .ok (.iaload, 1) := by decide +kernel
theorem dX12_plan_43 : decode cX12_plan 43 = .ok (.ireturn, 1) := by decide +kernel
theorem dX12_plan_44 : decode cX12_plan 44 = .ok (.aload_n 0, 1) := by decide +kernel
theorem dX12_plan_45 : decode cX12_plan 45 = .ok (.getfield 146, 3) := by decide +kernel
theorem dX12_plan_48 : decode cX12_plan 48 = .ok (.iload_n 1, 1) := by decide +kernel
theorem dX12_plan_49 : decode cX12_plan 49 = .ok (.iconst 2, 1) := by decide +kernel
theorem dX12_plan_50 : decode cX12_plan 50 = .ok (.idiv, 1) := by decide +kernel
theorem dX12_plan_51 : decode cX12_plan 51 = .ok (.iaload, 1) := by decide +kernel
theorem dX12_plan_52 : decode cX12_plan 52 = .ok (.istore_n 2, 1) := by decide +kernel
theorem dX12_plan_53 : decode cX12_plan 53 = .ok (.iload_n 1, 1) := by decide +kernel
theorem dX12_plan_54 : decode cX12_plan 54 = .ok (.iconst 2, 1) := by decide +kernel
theorem dX12_plan_55 : decode cX12_plan 55 = .ok (.irem, 1) := by decide +kernel
theorem dX12_plan_56 : decode cX12_plan 56 = .ok (.ifCond .ne 5, 3) := by decide +kernel
theorem dX12_plan_59 : decode cX12_plan 59 = .ok (.iload_n 2, 1) := by decide +kernel
theorem dX12_plan_60 : decode cX12_plan 60 = .ok (.ireturn, 1) := by decide +kernel
theorem dX12_plan_61 : decode cX12_plan 61 = .ok (.aload_n 0, 1) := by decide +kernel
theorem dX12_plan_62 : decode cX12_plan 62 = .ok (.iload_n 1, 1) := by decide +kernel
theorem dX12_plan_63 : decode cX12_plan 63 = .ok (.iconst 2, 1) := by decide +kernel
theorem dX12_plan_64 : decode cX12_plan 64 = .ok (.idiv, 1) := by decide +kernel
theorem dX12_plan_65 : decode cX12_plan 65 = .ok (.iload_n 2, 1) := by decide +kernel
theorem dX12_plan_66 : decode cX12_plan 66 = .ok (.invokevirtual 412, 3) := by decide +kernel
theorem dX12_plan_69 : decode cX12_plan 69 = .ok (.pop, 1) := by decide +kernel
theorem dX12_plan_70 : decode cX12_plan 70 = .ok (.iload_n 2, 1) := by decide +kernel
theorem dX12_plan_71 : decode cX12_plan 71 = .ok (.ifCond .ne 7, 3) := by decide +kernel
theorem dX12_plan_74 : decode cX12_plan 74 = .ok (.iconst (-1), 1) := by decide +kernel
theorem dX12_plan_75 : decode cX12_plan 75 = .ok (.goto 7, 3) := by decide +kernel
theorem dX12_plan_78 : decode cX12_plan 78 = .ok (.aload_n 0, 1) := by decide +kernel
theorem dX12_plan_79 : decode cX12_plan 79 = .ok (.getfield 406, 3) := by decide +kernel
theorem dX12_plan_82 : decode cX12_plan 82 = .ok (.ireturn, 1) := by decide +kernel
theorem dX12_hands_0 : decode cX12_hands 0 = .ok (.iload_n 2, 1) := by decide +kernel
theorem dX12_hands_1 : decode cX12_hands 1 = .ok (.aload_n 0, 1) := by decide +kernel
theorem dX12_hands_2 : decode cX12_hands 2 = .ok (.iload_n 1, 1) := by decide +kernel
theorem dX12_hands_3 : decode cX12_hands 3 = .ok (.invokevirtual 351, 3) := by decide +kernel
theorem dX12_hands_6 : decode cX12_hands 6 = .ok (.if_icmp .ne 66, 3) := by decide +kernel
theorem dX12_hands_9 : decode cX12_hands 9 = .ok (.iload 5, 2) := by decide +kernel
theorem dX12_hands_11 : decode cX12_hands 11 = .ok (.aload_n 0, 1) := by decide +kernel
theorem dX12_hands_12 : decode cX12_hands 12 = .ok (.getfield 97, 3) := by decide +kernel
theorem dX12_hands_15 : decode cX12_hands 15 = .ok (.iconst 5, 1) := by decide +kernel
theorem dX12_hands_16 : decode cX12_hands 16 = .ok (.iaload, 1) := by decide +kernel
theorem dX12_hands_17 : decode cX12_hands 17 = .ok (.if_icmp .gt 54, 3) := by decide +kernel
theorem dX12_hands_20 : decode cX12_hands 20 = .ok (.iload 4, 2) := by decide +kernel
theorem dX12_hands_22 : decode cX12_hands 22 = .ok (.aload_n 0, 1) := by decide +kernel
theorem dX12_hands_23 : decode cX12_hands 23 = .ok (.getfield 418, 3) := by decide +kernel
theorem dX12_hands_26 : decode cX12_hands 26 = .ok (.if_icmp .le 45, 3) := by decide +kernel
theorem dX12_hands_29 : decode cX12_hands 29 = .ok (.aload_n 0, 1) := by decide +kernel
theorem dX12_hands_30 : decode cX12_hands 30 = .ok (.iload 4, 2) := by decide +kernel
theorem dX12_hands_32 : decode cX12_hands 32 = .ok (.putfield 418, 3) := by decide +kernel
theorem dX12_hands_35 : decode cX12_hands 35 = .ok (.aload_n 0, 1) := by decide +kernel
theorem dX12_hands_36 : decode cX12_hands 36 = .ok (.iload_n 1, 1) := by decide +kernel
theorem dX12_hands_37 : decode cX12_hands 37 = .ok (.putfield 421, 3) := by decide +kernel
theorem dX12_hands_40 : decode cX12_hands 40 = .ok (.iconst 1, 1) := by decide +kernel
theorem dX12_hands_41 : decode cX12_hands 41 = .ok (.istore 6, 2) := by decide +kernel
theorem dX12_hands_43 : decode cX12_hands 43 = .ok (.iload 6, 2) := by decide +kernel
theorem dX12_hands_45 : decode cX12_hands 45 = .ok (.iload_n 2, 1) := by decide +kernel
theorem dX12_hands_46 : decode cX12_hands 46 = .ok (.if_icmp .ge 25, 3) := by decide +kernel
theorem dX12_hands_49 : decode cX12_hands 49 = .ok (.aload_n 0, 1) := by decide +kernel
theorem dX12_hands_50 : decode cX12_hands 50 = .ok (.getfield 152, 3) := by decide +kernel
theorem dX12_hands_53 : decode cX12_hands 53 = .ok (.iload 6, 2) := by decide +kernel
theorem dX12_hands_55 : decode cX12_hands 55 = .ok (.iconst 1, 1) := by decide +kernel
theorem dX12_hands_56 : decode cX12_hands 56 = .ok (.isub, 1) := by decide +kernel
theorem dX12_hands_57 : decode cX12_hands 57 = .ok (.aload_n 0, 1) := by decide +kernel
theorem dX12_hands_58 : decode cX12_hands 58 = .ok (.getfield 149, 3) := by decide +kernel
theorem dX12_hands_61 : decode cX12_hands 61 = .ok (.iload 6, 2) := by decide +kernel
theorem dX12_hands_63 : decode cX12_hands 63 = .ok (.iaload, 1) := by decide +kernel
theorem dX12_hands_64 : decode cX12_hands 64 = .ok (.iastore, 1) := by decide +kernel
theorem dX12_hands_65 : decode cX12_hands 65 = .ok (.iinc 6 1, 3) := by decide +kernel
theorem dX12_hands_68 : decode cX12_hands 68 = .ok (.goto (-25), 3) := by decide +kernel
theorem dX12_hands_71 : decode cX12_hands 71 = .ok (.return_, 1) := by decide +kernel
theorem dX12_hands_72 : decode cX12_hands 72 = .ok (.iconst 0, 1) := by decide +kernel
theorem dX12_hands_73 : decode cX12_hands 73 = .ok (.istore 6, 2) := by decide +kernel
theorem dX12_hands_75 : decode cX12_hands 75 = .ok (.iload 6, 2) := by decide +kernel
theorem dX12_hands_77 : decode cX12_hands 77 = .ok (.aload_n 0, 1) := by decide +kernel
theorem dX12_hands_78 : decode cX12_hands 78 = .ok (.invokevirtual 312, 3) := by decide +kernel
theorem dX12_hands_81 : decode cX12_hands 81 = .ok (.if_icmp .ge 154, 3) := by decide +kernel
theorem dX12_hands_84 : decode cX12_hands 84 = .ok (.iload_n 2, 1) := by decide +kernel
theorem dX12_hands_85 : decode cX12_hands 85 = .ok (.iconst 1, 1) := by decide +kernel
theorem dX12_hands_86 : decode cX12_hands 86 = .ok (.if_icmp .le 20, 3) := by decide +kernel
theorem dX12_hands_89 : decode cX12_hands 89 = .ok (.aload_n 0, 1) := by decide +kernel
theorem dX12_hands_90 : decode cX12_hands 90 = .ok (.getfield 149, 3) := by decide +kernel
theorem dX12_hands_93 : decode cX12_hands 93 = .ok (.iload_n 2, 1) := by decide +kernel
theorem dX12_hands_94 : decode cX12_hands 94 = .ok (.iconst 1, 1) := by decide +kernel
theorem dX12_hands_95 : decode cX12_hands 95 = .ok (.isub, 1) := by decide +kernel
theorem dX12_hands_96 : decode cX12_hands 96 = .ok (.iaload, 1) := by decide +kernel
theorem dX12_hands_97 : decode cX12_hands 97 = .ok (.iload 6, 2) := by decide +kernel
theorem dX12_hands_99 : decode cX12_hands 99 = .ok (.if_icmp .ne 7, 3) := by decide +kernel
theorem dX12_hands_102 : decode cX12_hands 102 = .ok (.iconst 1, 1) := by decide +kernel
theorem dX12_hands_103 : decode cX12_hands 103 = .ok (.goto 4, 3) := by decide +kernel
theorem dX12_hands_106 : decode cX12_hands 106 = .ok (.iconst 0, 1) := by decide +kernel
theorem dX12_hands_107 : decode cX12_hands 107 = .ok (.istore 7, 2) := by decide +kernel
theorem dX12_hands_109 : decode cX12_hands 109 = .ok (.iload 7, 2) := by decide +kernel
theorem dX12_hands_111 : decode cX12_hands 111 = .ok (.ifCond .ne 12, 3) := by decide +kernel
theorem dX12_hands_114 : decode cX12_hands 114 = .ok (.iload_n 3, 1) := by decide +kernel
theorem dX12_hands_115 : decode cX12_hands 115 = .ok (.iload 6, 2) := by decide +kernel
theorem dX12_hands_117 : decode cX12_hands 117 = .ok (.ishr, 1) := by decide +kernel
theorem dX12_hands_118 : decode cX12_hands 118 = .ok (.iconst 1, 1) := by decide +kernel
theorem dX12_hands_119 : decode cX12_hands 119 = .ok (.iand, 1) := by decide +kernel
theorem dX12_hands_120 : decode cX12_hands 120 = .ok (.ifCond .ne 109, 3) := by decide +kernel
theorem dX12_hands_123 : decode cX12_hands 123 = .ok (.aload_n 0, 1) := by decide +kernel
theorem dX12_hands_124 : decode cX12_hands 124 = .ok (.getfield 149, 3) := by decide +kernel
theorem dX12_hands_127 : decode cX12_hands 127 = .ok (.iload_n 2, 1) := by decide +kernel
theorem dX12_hands_128 : decode cX12_hands 128 = .ok (.iload 6, 2) := by decide +kernel
theorem dX12_hands_130 : decode cX12_hands 130 = .ok (.iastore, 1) := by decide +kernel
theorem dX12_hands_131 : decode cX12_hands 131 = .ok (.aload_n 0, 1) := by decide +kernel
theorem dX12_hands_132 : decode cX12_hands 132 = .ok (.iload 4, 2) := by decide +kernel
theorem dX12_hands_134 : decode cX12_hands 134 = .ok (.aload_n 0, 1) := by decide +kernel
theorem dX12_hands_135 : decode cX12_hands 135 = .ok (.iload 6, 2) := by decide +kernel
theorem dX12_hands_137 : decode cX12_hands 137 = .ok (.invokevirtual 366, 3) := by decide +kernel
theorem dX12_hands_140 : decode cX12_hands 140 = .ok (.if_icmp .le 12, 3) := by decide +kernel
theorem dX12_hands_143 : decode cX12_hands 143 = .ok (.aload_n 0, 1) := by decide +kernel
theorem dX12_hands_144 : decode cX12_hands 144 = .ok (.iload 6, 2) := by decide +kernel
theorem dX12_hands_146 : decode cX12_hands 146 = .ok (.invokevirtual 366, 3) := by decide +kernel
theorem dX12_hands_149 : decode cX12_hands 149 = .ok (.goto 5, 3) := by decide +kernel
theorem dX12_hands_152 : decode cX12_hands 152 = .ok (.iload 4, 2) := by decide +kernel
theorem dX12_hands_154 : decode cX12_hands 154 = .ok (.putfield 330, 3) := by decide +kernel
theorem dX12_hands_157 : decode cX12_hands 157 = .ok (.aload_n 0, 1) := by decide +kernel
theorem dX12_hands_158 : decode cX12_hands 158 = .ok (.iload 5, 2) := by decide +kernel
theorem dX12_hands_160 : decode cX12_hands 160 = .ok (.putfield 336, 3) := by decide +kernel
theorem dX12_hands_163 : decode cX12_hands 163 = .ok (.aload_n 0, 1) := by decide +kernel
theorem dX12_hands_164 : decode cX12_hands 164 = .ok (.iload 6, 2) := by decide +kernel
theorem dX12_hands_166 : decode cX12_hands 166 = .ok (.aload_n 0, 1) := by decide +kernel
theorem dX12_hands_167 : decode cX12_hands 167 = .ok (.iload_n 1, 1) := by decide +kernel
theorem dX12_hands_168 : decode cX12_hands 168 = .ok (.iload_n 2, 1) := by decide +kernel
theorem dX12_hands_169 : decode cX12_hands 169 = .ok (.iconst 1, 1) := by decide +kernel
theorem dX12_hands_170 : decode cX12_hands 170 = .ok (.isub, 1) := by decide +kernel
theorem dX12_hands_171 : decode cX12_hands 171 = .ok (.invokevirtual 354, 3) := by decide +kernel
theorem dX12_hands_174 : decode cX12_hands 174 = .ok (.aload_n 0, 1) := by decide +kernel
theorem dX12_hands_175 : decode cX12_hands 175 = .ok (.iload_n 1, 1) := by decide +kernel
theorem dX12_hands_176 : decode cX12_hands 176 = .ok (.iload_n 2, 1) := by decide +kernel
theorem dX12_hands_177 : decode cX12_hands 177 = .ok (.invokevirtual 354, 3) := by decide +kernel
theorem dX12_hands_180 : decode cX12_hands 180 = .ok (.invokevirtual 357, 3) := by decide +kernel
theorem dX12_hands_183 : decode cX12_hands 183 = .ok (.iload_n 2, 1) := by decide +kernel
theorem dX12_hands_184 : decode cX12_hands 184 = .ok (.aload_n 0, 1) := by decide +kernel
theorem dX12_hands_185 : decode cX12_hands 185 = .ok (.iload_n 1, 1) := by decide +kernel
theorem dX12_hands_186 : decode cX12_hands 186 = .ok (.invokevirtual 351, 3) := by decide +kernel
theorem dX12_hands_189 : decode cX12_hands 189 = .ok (.iconst 1, 1) := by decide +kernel
theorem dX12_hands_190 : decode cX12_hands 190 = .ok (.isub, 1) := by decide +kernel
theorem dX12_hands_191 : decode cX12_hands 191 = .ok (.if_icmp .ge 16, 3) := by decide +kernel
theorem dX12_hands_194 : decode cX12_hands 194 = .ok (.aload_n 0, 1) := by decide +kernel
theorem dX12_hands_195 : decode cX12_hands 195 = .ok (.iload 6, 2) := by decide +kernel
theorem dX12_hands_197 : decode cX12_hands 197 = .ok (.aload_n 0, 1) := by decide +kernel
theorem dX12_hands_198 : decode cX12_hands 198 = .ok (.iload_n 1, 1) := by decide +kernel
theorem dX12_hands_199 : decode cX12_hands 199 = .ok (.iload_n 2, 1) := by decide +kernel
theorem dX12_hands_200 : decode cX12_hands 200 = .ok (.invokevirtual 354, 3) := by decide +kernel
theorem dX12_hands_203 : decode cX12_hands 203 = .ok (.invokevirtual 360, 3) := by decide +kernel
theorem dX12_hands_206 : decode cX12_hands 206 = .ok (.pop, 1) := by decide +kernel
theorem dX12_hands_207 : decode cX12_hands 207 = .ok (.aload_n 0, 1) := by decide +kernel
theorem dX12_hands_208 : decode cX12_hands 208 = .ok (.iload_n 1, 1) := by decide +kernel
theorem dX12_hands_209 : decode cX12_hands 209 = .ok (.iload_n 2, 1) := by decide +kernel
theorem dX12_hands_210 : decode cX12_hands 210 = .ok (.iconst 1, 1) := by decide +kernel
theorem dX12_hands_211 : decode cX12_hands 211 = .ok (.iadd, 1) := by decide +kernel
theorem dX12_hands_212 : decode cX12_hands 212 = .ok (.iload_n 3, 1) := by decide +kernel
theorem dX12_hands_213 : decode cX12_hands 213 = .ok (.iconst 1, 1) := by decide +kernel
theorem dX12_hands_214 : decode cX12_hands 214 = .ok (.iload 6, 2) := by decide +kernel
theorem dX12_hands_216 : decode cX12_hands 216 = .ok (.ishl, 1) := by decide +kernel
theorem dX12_hands_217 : decode cX12_hands 217 = .ok (.ior, 1) := by decide +kernel
theorem dX12_hands_218 : decode cX12_hands 218 = .ok (.aload_n 0, 1) := by decide +kernel
theorem dX12_hands_219 : decode cX12_hands 219 = .ok (.getfield 330, 3) := by decide +kernel
theorem dX12_hands_222 : decode cX12_hands 222 = .ok (.aload_n 0, 1) := by decide +kernel
theorem dX12_hands_223 : decode cX12_hands 223 = .ok (.getfield 336, 3) := by decide +kernel
theorem dX12_hands_226 : decode cX12_hands 226 = .ok (.invokevirtual 424, 3) := by decide +kernel
theorem dX12_hands_229 : decode cX12_hands 229 = .ok (.iinc 6 1, 3) := by decide +kernel
theorem dX12_hands_232 : decode cX12_hands 232 = .ok (.goto (-157), 3) := by decide +kernel
theorem dX12_hands_235 : decode cX12_hands 235 = .ok (.return_, 1) := by decide +kernel
theorem dX12_relay_0 : decode cX12_relay 0 = .ok (.aload_n 0, 1) := by decide +kernel
theorem dX12_relay_1 : decode cX12_relay 1 = .ok (.iconst 0, 1) := by decide +kernel
theorem dX12_relay_2 : decode cX12_relay 2 = .ok (.putfield 1, 3) := by decide +kernel
theorem dX12_relay_5 : decode cX12_relay 5 = .ok (.iload_n 1, 1) := by decide +kernel
theorem dX12_relay_6 : decode cX12_relay 6 = .ok (.iconst 0, 1) := by decide +kernel
theorem dX12_relay_7 : decode cX12_relay 7 = .ok (.bipush 60, 2) := by decide +kernel
theorem dX12_relay_9 : decode cX12_relay 9 = .ok (.invokestatic 372, 3) := by decide +kernel
theorem dX12_relay_12 : decode cX12_relay 12 = .ok (.ifCond .eq 30, 3) := by decide +kernel
theorem dX12_relay_15 : decode cX12_relay 15 = .ok (.iload_n 2, 1) := by decide +kernel
theorem dX12_relay_16 : decode cX12_relay 16 = .ok (.ifCond .lt 26, 3) := by decide +kernel
theorem dX12_relay_19 : decode cX12_relay 19 = .ok (.aload_n 0, 1) := by decide +kernel
theorem dX12_relay_20 : decode cX12_relay 20 = .ok (.invokevirtual 312, 3) := by decide +kernel
theorem dX12_relay_23 : decode cX12_relay 23 = .ok (.ifCond .eq 19, 3) := by decide +kernel
theorem dX12_relay_26 : decode cX12_relay 26 = .ok (.aload_n 0, 1) := by decide +kernel
theorem dX12_relay_27 : decode cX12_relay 27 = .ok (.invokevirtual 312, 3) := by decide +kernel
theorem dX12_relay_30 : decode cX12_relay 30 = .ok (.iconst 4, 1) := by decide +kernel
theorem dX12_relay_31 : decode cX12_relay 31 = .ok (.if_icmp .gt 11, 3) := by decide +kernel
theorem dX12_relay_34 : decode cX12_relay 34 = .ok (.aload_n 0, 1) := by decide +kernel
theorem dX12_relay_35 : decode cX12_relay 35 = .ok (.invokevirtual 309, 3) := by decide +kernel
theorem dX12_relay_38 : decode cX12_relay 38 = .ok (.iconst 2, 1) := by decide +kernel
theorem dX12_relay_39 : decode cX12_relay 39 = .ok (.if_icmp .ge 5, 3) := by decide +kernel
theorem dX12_relay_42 : decode cX12_relay 42 = .ok (.iconst (-1), 1) := by decide +kernel
theorem dX12_relay_43 : decode cX12_relay 43 = .ok (.ireturn, 1) := by decide +kernel
theorem dX12_relay_44 : decode cX12_relay 44 = .ok (.aload_n 0, 1) := by decide +kernel
theorem dX12_relay_45 : decode cX12_relay 45 = .ok (.iconst (-1), 1) := by decide +kernel
theorem dX12_relay_46 : decode cX12_relay 46 = .ok (.putfield 418, 3) := by decide +kernel
theorem dX12_relay_49 : decode cX12_relay 49 = .ok (.iconst 0, 1) := by decide +kernel
theorem dX12_relay_50 : decode cX12_relay 50 = .ok (.istore_n 3, 1) := by decide +kernel
theorem dX12_relay_51 : decode cX12_relay 51 = .ok (.iload_n 3, 1) := by decide +kernel
theorem dX12_relay_52 : decode cX12_relay 52 = .ok (.aload_n 0, 1) := by decide +kernel
theorem dX12_relay_53 : decode cX12_relay 53 = .ok (.getfield 318, 3) := by decide +kernel
theorem dX12_relay_56 : decode cX12_relay 56 = .ok (.if_icmp .ge 18, 3) := by decide +kernel
theorem dX12_relay_59 : decode cX12_relay 59 = .ok (.aload_n 0, 1) := by decide +kernel
theorem dX12_relay_60 : decode cX12_relay 60 = .ok (.iload_n 3, 1) := by decide +kernel
theorem dX12_relay_61 : decode cX12_relay 61 = .ok (.iconst 1, 1) := by decide +kernel
theorem dX12_relay_62 : decode cX12_relay 62 = .ok (.iconst 0, 1) := by decide +kernel
theorem dX12_relay_63 : decode cX12_relay 63 = .ok (.iload_n 1, 1) := by decide +kernel
theorem dX12_relay_64 : decode cX12_relay 64 = .ok (.iconst 0, 1) := by decide +kernel
theorem dX12_relay_65 : decode cX12_relay 65 = .ok (.invokevirtual 424, 3) := by decide +kernel
theorem dX12_relay_68 : decode cX12_relay 68 = .ok (.iinc 3 1, 3) := by decide +kernel
theorem dX12_relay_71 : decode cX12_relay 71 = .ok (.goto (-20), 3) := by decide +kernel
theorem dX12_relay_74 : decode cX12_relay 74 = .ok (.aload_n 0, 1) := by decide +kernel
theorem dX12_relay_75 : decode cX12_relay 75 = .ok (.getfield 418, 3) := by decide +kernel
theorem dX12_relay_78 : decode cX12_relay 78 = .ok (.ifCond .ge 5, 3) := by decide +kernel
theorem dX12_relay_81 : decode cX12_relay 81 = .ok (.iconst (-1), 1) := by decide +kernel
theorem dX12_relay_82 : decode cX12_relay 82 = .ok (.ireturn, 1) := by decide +kernel
theorem dX12_relay_83 : decode cX12_relay 83 = .ok (.iload_n 2, 1) := by decide +kernel
theorem dX12_relay_84 : decode cX12_relay 84 = .ok (.ifCond .ne 10, 3) := by decide +kernel
theorem dX12_relay_87 : decode cX12_relay 87 = .ok (.aload_n 0, 1) := by decide +kernel
theorem dX12_relay_88 : decode cX12_relay 88 = .ok (.getfield 418, 3) := by decide +kernel
theorem dX12_relay_91 : decode cX12_relay 91 = .ok (.goto 43, 3) := by decide +kernel
theorem dX12_relay_94 : decode cX12_relay 94 = .ok (.iload_n 2, 1) := by decide +kernel
theorem dX12_relay_95 : decode cX12_relay 95 = .ok (.iconst 1, 1) := by decide +kernel
theorem dX12_relay_96 : decode cX12_relay 96 = .ok (.if_icmp .ne 10, 3) := by decide +kernel
theorem dX12_relay_99 : decode cX12_relay 99 = .ok (.aload_n 0, 1) := by decide +kernel
theorem dX12_relay_100 : decode cX12_relay 100 = .ok (.getfield 421, 3) := by decide +kernel
theorem dX12_relay_103 : decode cX12_relay 103 = .ok (.goto 31, 3) := by decide +kernel
theorem dX12_relay_106 : decode cX12_relay 106 = .ok (.iload_n 2, 1) := by decide +kernel
theorem dX12_relay_107 : decode cX12_relay 107 = .ok (.iconst 2, 1) := by decide +kernel
theorem dX12_relay_108 : decode cX12_relay 108 = .ok (.isub, 1) := by decide +kernel
theorem dX12_relay_109 : decode cX12_relay 109 = .ok (.aload_n 0, 1) := by decide +kernel
theorem dX12_relay_110 : decode cX12_relay 110 = .ok (.aload_n 0, 1) := by decide +kernel
theorem dX12_relay_111 : decode cX12_relay 111 = .ok (.getfield 421, 3) := by decide +kernel
theorem dX12_relay_114 : decode cX12_relay 114 = .ok (.invokevirtual 351, 3) := by decide +kernel
theorem dX12_relay_117 : decode cX12_relay 117 = .ok (.iconst 1, 1) := by decide +kernel
theorem dX12_relay_118 : decode cX12_relay 118 = .ok (.isub, 1) := by decide +kernel
theorem dX12_relay_119 : decode cX12_relay 119 = .ok (.if_icmp .ge 14, 3) := by decide +kernel
theorem dX12_relay_122 : decode cX12_relay 122 = .ok (.aload_n 0, 1) := by decide +kernel
theorem dX12_relay_123 : decode cX12_relay 123 = .ok (.getfield 152, 3) := by decide +kernel
theorem dX12_relay_126 : decode cX12_relay 126 = .ok (.iload_n 2, 1) := by decide +kernel
theorem dX12_relay_127 : decode cX12_relay 127 = .ok (.iconst 2, 1) := by decide +kernel
theorem dX12_relay_128 : decode cX12_relay 128 = .ok (.isub, 1) := by decide +kernel
theorem dX12_relay_129 : decode cX12_relay 129 = .ok (.iaload, 1) := by decide +kernel
theorem dX12_relay_130 : decode cX12_relay 130 = .ok (.goto 4, 3) := by decide +kernel
theorem dX12_relay_133 : decode cX12_relay 133 = .ok (.iconst (-1), 1) := by decide +kernel
theorem dX12_relay_134 : decode cX12_relay 134 = .ok (.ireturn, 1) := by decide +kernel
theorem dX12_owe_0 : decode cX12_owe 0 = .ok (.aload_n 0, 1) := by decide +kernel
theorem dX12_owe_1 : decode cX12_owe 1 = .ok (.iconst 0, 1) := by decide +kernel
theorem dX12_owe_2 : decode cX12_owe 2 = .ok (.putfield 1, 3) := by decide +kernel
theorem dX12_owe_5 : decode cX12_owe 5 = .ok (.aload_n 0, 1) := by decide +kernel
theorem dX12_owe_6 : decode cX12_owe 6 = .ok (.iload_n 1, 1) := by decide +kernel
theorem dX12_owe_7 : decode cX12_owe 7 = .ok (.invokevirtual 363, 3) := by decide +kernel
theorem dX12_owe_10 : decode cX12_owe 10 = .ok (.ifCond .eq 41, 3) := by decide +kernel
theorem dX12_owe_13 : decode cX12_owe 13 = .ok (.aload_n 0, 1) := by decide +kernel
theorem dX12_owe_14 : decode cX12_owe 14 = .ok (.iload_n 2, 1) := by decide +kernel
theorem dX12_owe_15 : decode cX12_owe 15 = .ok (.invokevirtual 363, 3) := by decide +kernel
theorem dX12_owe_18 : decode cX12_owe 18 = .ok (.ifCond .eq 33, 3) := by decide +kernel
theorem dX12_owe_21 : decode cX12_owe 21 = .ok (.iload_n 1, 1) := by decide +kernel
theorem dX12_owe_22 : decode cX12_owe 22 = .ok (.iload_n 2, 1) := by decide +kernel
theorem dX12_owe_23 : decode cX12_owe 23 = .ok (.if_icmp .eq 28, 3) := by decide +kernel
theorem dX12_owe_26 : decode cX12_owe 26 = .ok (.iload_n 3, 1) := by decide +kernel
theorem dX12_owe_27 : decode cX12_owe 27 = .ok (.iconst 0, 1) := by decide +kernel
theorem dX12_owe_28 : decode cX12_owe 28 = .ok (.bipush 99, 2) := by decide +kernel
theorem dX12_owe_30 : decode cX12_owe 30 = .ok (.invokestatic 372, 3) := by decide +kernel
theorem dX12_owe_33 : decode cX12_owe 33 = .ok (.ifCond .eq 18, 3) := by decide +kernel
theorem dX12_owe_36 : decode cX12_owe 36 = .ok (.aload_n 0, 1) := by decide +kernel
theorem dX12_owe_37 : decode cX12_owe 37 = .ok (.getfield 127, 3) := by decide +kernel
theorem dX12_owe_40 : decode cX12_owe 40 = .ok (.bipush 6, 2) := by decide +kernel
theorem dX12_owe_42 : decode cX12_owe 42 = .ok (.iload_n 1, 1) := by decide +kernel
theorem dX12_owe_43 : decode cX12_owe 43 = .ok (.imul, 1) := by decide +kernel
theorem dX12_owe_44 : decode cX12_owe 44 = .ok (.iload_n 2, 1) := by decide +kernel
theorem dX12_owe_45 : decode cX12_owe 45 = .ok (.iadd, 1) := by decide +kernel
theorem dX12_owe_46 : decode cX12_owe 46 = .ok (.iaload, 1) := by decide +kernel
theorem dX12_owe_47 : decode cX12_owe 47 = .ok (.iload_n 3, 1) := by decide +kernel
theorem dX12_owe_48 : decode cX12_owe 48 = .ok (.if_icmp .ne 5, 3) := by decide +kernel
theorem dX12_owe_51 : decode cX12_owe 51 = .ok (.iconst 0, 1) := by decide +kernel
theorem dX12_owe_52 : decode cX12_owe 52 = .ok (.ireturn, 1) := by decide +kernel
theorem dX12_owe_53 : decode cX12_owe 53 = .ok (.aload_n 0, 1) := by decide +kernel
theorem dX12_owe_54 : decode cX12_owe 54 = .ok (.invokevirtual 428, 3) := by decide +kernel
theorem dX12_owe_57 : decode cX12_owe 57 = .ok (.aload_n 0, 1) := by decide +kernel
theorem dX12_owe_58 : decode cX12_owe 58 = .ok (.getfield 127, 3) := by decide +kernel
theorem dX12_owe_61 : decode cX12_owe 61 = .ok (.bipush 6, 2) := by decide +kernel
theorem dX12_owe_63 : decode cX12_owe 63 = .ok (.iload_n 1, 1) := by decide +kernel
theorem dX12_owe_64 : decode cX12_owe 64 = .ok (.imul, 1) := by decide +kernel
theorem dX12_owe_65 : decode cX12_owe 65 = .ok (.iload_n 2, 1) := by decide +kernel
theorem dX12_owe_66 : decode cX12_owe 66 = .ok (.iadd, 1) := by decide +kernel
theorem dX12_owe_67 : decode cX12_owe 67 = .ok (.iload_n 3, 1) := by decide +kernel
theorem dX12_owe_68 : decode cX12_owe 68 = .ok (.iastore, 1) := by decide +kernel
theorem dX12_owe_69 : decode cX12_owe 69 = .ok (.iconst 1, 1) := by decide +kernel
theorem dX12_owe_70 : decode cX12_owe 70 = .ok (.ireturn, 1) := by decide +kernel
theorem dX12_owes_0 : decode cX12_owes 0 = .ok (.aload_n 0, 1) := by decide +kernel
theorem dX12_owes_1 : decode cX12_owes 1 = .ok (.iconst 0, 1) := by decide +kernel
theorem dX12_owes_2 : decode cX12_owes 2 = .ok (.putfield 1, 3) := by decide +kernel
theorem dX12_owes_5 : decode cX12_owes 5 = .ok (.aload_n 0, 1) := by decide +kernel
theorem dX12_owes_6 : decode cX12_owes 6 = .ok (.iload_n 1, 1) := by decide +kernel
theorem dX12_owes_7 : decode cX12_owes 7 = .ok (.invokevirtual 363, 3) := by decide +kernel
theorem dX12_owes_10 : decode cX12_owes 10 = .ok (.ifCond .eq 30, 3) := by decide +kernel
theorem dX12_owes_13 : decode cX12_owes 13 = .ok (.aload_n 0, 1) := by decide +kernel
theorem dX12_owes_14 : decode cX12_owes 14 = .ok (.iload_n 2, 1) := by decide +kernel
theorem dX12_owes_15 : decode cX12_owes 15 = .ok (.invokevirtual 363, 3) := by decide +kernel
theorem dX12_owes_18 : decode cX12_owes 18 = .ok (.ifCond .eq 22, 3) := by decide +kernel
theorem dX12_owes_21 : decode cX12_owes 21 = .ok (.iload_n 1, 1) := by decide +kernel
theorem dX12_owes_22 : decode cX12_owes 22 = .ok (.iload_n 2, 1) := by decide +kernel
theorem dX12_owes_23 : decode cX12_owes 23 = .ok (.if_icmp .eq 17, 3) := by decide +kernel
theorem dX12_owes_26 : decode cX12_owes 26 = .ok (.aload_n 0, 1) := by decide +kernel
theorem dX12_owes_27 : decode cX12_owes 27 = .ok (.getfield 127, 3) := by decide +kernel
theorem dX12_owes_30 : decode cX12_owes 30 = .ok (.bipush 6, 2) := by decide +kernel
theorem dX12_owes_32 : decode cX12_owes 32 = .ok (.iload_n 1, 1) := by decide +kernel
theorem dX12_owes_33 : decode cX12_owes 33 = .ok (.imul, 1) := by decide +kernel
theorem dX12_owes_34 : decode cX12_owes 34 = .ok (.iload_n 2, 1) := by decide +kernel
theorem dX12_owes_35 : decode cX12_owes 35 = .ok (.iadd, 1) := by decide +kernel
theorem dX12_owes_36 : decode cX12_owes 36 = .ok (.iaload, 1) := by decide +kernel
theorem dX12_owes_37 : decode cX12_owes 37 = .ok (.goto 4, 3) := by decide +kernel
theorem dX12_owes_40 : decode cX12_owes 40 = .ok (.iconst (-1), 1) := by decide +kernel
theorem dX12_owes_41 : decode cX12_owes 41 = .ok (.ireturn, 1) := by decide +kernel
theorem dX12_debt_0 : decode cX12_debt 0 = .ok (.aload_n 0, 1) := by decide +kernel
theorem dX12_debt_1 : decode cX12_debt 1 = .ok (.aload_n 0, 1) := by decide +kernel
theorem dX12_debt_2 : decode cX12_debt 2 = .ok (.iload_n 1, 1) := by decide +kernel
theorem dX12_debt_3 : decode cX12_debt 3 = .ok (.invokevirtual 363, 3) := by decide +kernel
theorem dX12_debt_6 : decode cX12_debt 6 = .ok (.ifCond .eq 7, 3) := by decide +kernel
theorem dX12_debt_9 : decode cX12_debt 9 = .ok (.iconst 0, 1) := by decide +kernel
theorem dX12_debt_10 : decode cX12_debt 10 = .ok (.goto 4, 3) := by decide +kernel
theorem dX12_debt_13 : decode cX12_debt 13 = .ok (.iconst 1, 1) := by decide +kernel
theorem dX12_debt_14 : decode cX12_debt 14 = .ok (.putfield 1, 3) := by decide +kernel
theorem dX12_debt_17 : decode cX12_debt 17 = .ok (.aload_n 0, 1) := by decide +kernel
theorem dX12_debt_18 : decode cX12_debt 18 = .ok (.getfield 1, 3) := by decide +kernel
theorem dX12_debt_21 : decode cX12_debt 21 = .ok (.ifCond .le 7, 3) := by decide +kernel
theorem dX12_debt_24 : decode cX12_debt 24 = .ok (.iconst 0, 1) := by decide +kernel
theorem dX12_debt_25 : decode cX12_debt 25 = .ok (.goto 8, 3) := by decide +kernel
theorem dX12_debt_28 : decode cX12_debt 28 = .ok (.aload_n 0, 1) := by decide +kernel
theorem dX12_debt_29 : decode cX12_debt 29 = .ok (.iload_n 1, 1) := by decide +kernel
theorem dX12_debt_30 : decode cX12_debt 30 = .ok (.invokevirtual 339, 3) := by decide +kernel
theorem dX12_debt_33 : decode cX12_debt 33 = .ok (.ireturn, 1) := by decide +kernel
theorem dX12_sumOf_0 : decode cX12_sumOf 0 = .ok (.iconst 0, 1) := by decide +kernel
theorem dX12_sumOf_1 : decode cX12_sumOf 1 = .ok (.istore_n 2, 1) := by decide +kernel
theorem dX12_sumOf_2 : decode cX12_sumOf 2 = .ok (.iconst 0, 1) := by decide +kernel
theorem dX12_sumOf_3 : decode cX12_sumOf 3 = .ok (.istore_n 3, 1) := by decide +kernel
theorem dX12_sumOf_4 : decode cX12_sumOf 4 = .ok (.iload_n 3, 1) := by decide +kernel
theorem dX12_sumOf_5 : decode cX12_sumOf 5 = .ok (.aload_n 0, 1) := by decide +kernel
theorem dX12_sumOf_6 : decode cX12_sumOf 6 = .ok (.invokevirtual 312, 3) := by decide +kernel
theorem dX12_sumOf_9 : decode cX12_sumOf 9 = .ok (.if_icmp .ge 30, 3) := by decide +kernel
theorem dX12_sumOf_12 : decode cX12_sumOf 12 = .ok (.iload_n 2, 1) := by decide +kernel
theorem dX12_sumOf_13 : decode cX12_sumOf 13 = .ok (.iload_n 1, 1) := by decide +kernel
theorem dX12_sumOf_14 : decode cX12_sumOf 14 = .ok (.iload_n 3, 1) := by decide +kernel
theorem dX12_sumOf_15 : decode cX12_sumOf 15 = .ok (.ishr, 1) := by decide +kernel
theorem dX12_sumOf_16 : decode cX12_sumOf 16 = .ok (.iconst 1, 1) := by decide +kernel
theorem dX12_sumOf_17 : decode cX12_sumOf 17 = .ok (.iand, 1) := by decide +kernel
theorem dX12_sumOf_18 : decode cX12_sumOf 18 = .ok (.iconst 1, 1) := by decide +kernel
theorem dX12_sumOf_19 : decode cX12_sumOf 19 = .ok (.if_icmp .ne 11, 3) := by decide +kernel
theorem dX12_sumOf_22 : decode cX12_sumOf 22 = .ok (.aload_n 0, 1) := by decide +kernel
theorem dX12_sumOf_23 : decode cX12_sumOf 23 = .ok (.iload_n 3, 1) := by decide +kernel
theorem dX12_sumOf_24 : decode cX12_sumOf 24 = .ok (.invokevirtual 339, 3) := by decide +kernel
theorem dX12_sumOf_27 : decode cX12_sumOf 27 = .ok (.goto 4, 3) := by decide +kernel
theorem dX12_sumOf_30 : decode cX12_sumOf 30 = .ok (.iconst 0, 1) := by decide +kernel
theorem dX12_sumOf_31 : decode cX12_sumOf 31 = .ok (.iadd, 1) := by decide +kernel
theorem dX12_sumOf_32 : decode cX12_sumOf 32 = .ok (.istore_n 2, 1) := by decide +kernel
theorem dX12_sumOf_33 : decode cX12_sumOf 33 = .ok (.iinc 3 1, 3) := by decide +kernel
theorem dX12_sumOf_36 : decode cX12_sumOf 36 = .ok (.goto (-32), 3) := by decide +kernel
theorem dX12_sumOf_39 : decode cX12_sumOf 39 = .ok (.iload_n 2, 1) := by decide +kernel
theorem dX12_sumOf_40 : decode cX12_sumOf 40 = .ok (.ireturn, 1) := by decide +kernel
theorem dX12_settled_0 : decode cX12_settled 0 = .ok (.aload_n 0, 1) := by decide +kernel
theorem dX12_settled_1 : decode cX12_settled 1 = .ok (.iconst 0, 1) := by decide +kernel
theorem dX12_settled_2 : decode cX12_settled 2 = .ok (.putfield 1, 3) := by decide +kernel
theorem dX12_settled_5 : decode cX12_settled 5 = .ok (.iconst 0, 1) := by decide +kernel
theorem dX12_settled_6 : decode cX12_settled 6 = .ok (.istore_n 1, 1) := by decide +kernel
theorem dX12_settled_7 : decode cX12_settled 7 = .ok (.iconst 0, 1) := by decide +kernel
theorem dX12_settled_8 : decode cX12_settled 8 = .ok (.istore_n 2, 1) := by decide +kernel
theorem dX12_settled_9 : decode cX12_settled 9 = .ok (.iload_n 2, 1) := by decide +kernel
theorem dX12_settled_10 : decode cX12_settled 10 = .ok (.iconst 1, 1) := by decide +kernel
theorem dX12_settled_11 : decode cX12_settled 11 = .ok (.aload_n 0, 1) := by decide +kernel
theorem dX12_settled_12 : decode cX12_settled 12 = .ok (.invokevirtual 312, 3) := by decide +kernel
theorem dX12_settled_15 : decode cX12_settled 15 = .ok (.ishl, 1) := by decide +kernel
theorem dX12_settled_16 : decode cX12_settled 16 = .ok (.if_icmp .ge 120, 3) := by decide +kernel
theorem dX12_settled_19 : decode cX12_settled 19 = .ok (.aload_n 0, 1) := by decide +kernel
theorem dX12_settled_20 : decode cX12_settled 20 = .ok (.getfield 155, 3) := by decide +kernel
theorem dX12_settled_23 : decode cX12_settled 23 = .ok (.iload_n 2, 1) := by decide +kernel
theorem dX12_settled_24 : decode cX12_settled 24 = .ok (.iload_n 2, 1) := by decide +kernel
theorem dX12_settled_25 : decode cX12_settled 25 = .ok (.ifCond .ne 7, 3) := by decide +kernel
theorem dX12_settled_28 : decode cX12_settled 28 = .ok (.iconst 0, 1) := by decide +kernel
theorem dX12_settled_29 : decode cX12_settled 29 = .ok (.goto 4, 3) := by decide +kernel
theorem dX12_settled_32 : decode cX12_settled 32 = .ok (.iconst (-1), 1) := by decide +kernel
theorem dX12_settled_33 : decode cX12_settled 33 = .ok (.iastore, 1) := by decide +kernel
theorem dX12_settled_34 : decode cX12_settled 34 = .ok (.iload_n 2, 1) := by decide +kernel
theorem dX12_settled_35 : decode cX12_settled 35 = .ok (.istore_n 3, 1) := by decide +kernel
theorem dX12_settled_36 : decode cX12_settled 36 = .ok (.iload_n 3, 1) := by decide +kernel
theorem dX12_settled_37 : decode cX12_settled 37 = .ok (.ifCond .le 72, 3) := by decide +kernel
theorem dX12_settled_40 : decode cX12_settled 40 = .ok (.aload_n 0, 1) := by decide +kernel
theorem dX12_settled_41 : decode cX12_settled 41 = .ok (.iload_n 3, 1) := by decide +kernel
theorem dX12_settled_42 : decode cX12_settled 42 = .ok (.invokevirtual 431, 3) := by decide +kernel
theorem dX12_settled_45 : decode cX12_settled 45 = .ok (.ifCond .ne 55, 3) := by decide +kernel
theorem dX12_settled_48 : decode cX12_settled 48 = .ok (.aload_n 0, 1) := by decide +kernel
theorem dX12_settled_49 : decode cX12_settled 49 = .ok (.getfield 155, 3) := by decide +kernel
theorem dX12_settled_52 : decode cX12_settled 52 = .ok (.iload_n 2, 1) := by decide +kernel
theorem dX12_settled_53 : decode cX12_settled 53 = .ok (.iload_n 3, 1) := by decide +kernel
theorem dX12_settled_54 : decode cX12_settled 54 = .ok (.iconst (-1), 1) := by decide +kernel
theorem dX12_settled_55 : decode cX12_settled 55 = .ok (.ixor, 1) := by decide +kernel
theorem dX12_settled_56 : decode cX12_settled 56 = .ok (.iand, 1) := by decide +kernel
theorem dX12_settled_57 : decode cX12_settled 57 = .ok (.iaload, 1) := by decide +kernel
theorem dX12_settled_58 : decode cX12_settled 58 = .ok (.ifCond .lt 42, 3) := by decide +kernel
theorem dX12_settled_61 : decode cX12_settled 61 = .ok (.aload_n 0, 1) := by decide +kernel
theorem dX12_settled_62 : decode cX12_settled 62 = .ok (.getfield 155, 3) := by decide +kernel
theorem dX12_settled_65 : decode cX12_settled 65 = .ok (.iload_n 2, 1) := by decide +kernel
theorem dX12_settled_66 : decode cX12_settled 66 = .ok (.iload_n 3, 1) := by decide +kernel
theorem dX12_settled_67 : decode cX12_settled 67 = .ok (.iconst (-1), 1) := by decide +kernel
theorem dX12_settled_68 : decode cX12_settled 68 = .ok (.ixor, 1) := by decide +kernel
theorem dX12_settled_69 : decode cX12_settled 69 = .ok (.iand, 1) := by decide +kernel
theorem dX12_settled_70 : decode cX12_settled 70 = .ok (.iaload, 1) := by decide +kernel
theorem dX12_settled_71 : decode cX12_settled 71 = .ok (.iconst 1, 1) := by decide +kernel
theorem dX12_settled_72 : decode cX12_settled 72 = .ok (.iadd, 1) := by decide +kernel
theorem dX12_settled_73 : decode cX12_settled 73 = .ok (.aload_n 0, 1) := by decide +kernel
theorem dX12_settled_74 : decode cX12_settled 74 = .ok (.getfield 155, 3) := by decide +kernel
theorem dX12_settled_77 : decode cX12_settled 77 = .ok (.iload_n 2, 1) := by decide +kernel
theorem dX12_settled_78 : decode cX12_settled 78 = .ok (.iaload, 1) := by decide +kernel
theorem dX12_settled_79 : decode cX12_settled 79 = .ok (.if_icmp .le 21, 3) := by decide +kernel
theorem dX12_settled_82 : decode cX12_settled 82 = .ok (.aload_n 0, 1) := by decide +kernel
theorem dX12_settled_83 : decode cX12_settled 83 = .ok (.getfield 155, 3) := by decide +kernel
theorem dX12_settled_86 : decode cX12_settled 86 = .ok (.iload_n 2, 1) := by decide +kernel
theorem dX12_settled_87 : decode cX12_settled 87 = .ok (.aload_n 0, 1) := by decide +kernel
theorem dX12_settled_88 : decode cX12_settled 88 = .ok (.getfield 155, 3) := by decide +kernel
theorem dX12_settled_91 : decode cX12_settled 91 = .ok (.iload_n 2, 1) := by decide +kernel
theorem dX12_settled_92 : decode cX12_settled 92 = .ok (.iload_n 3, 1) := by decide +kernel
theorem dX12_settled_93 : decode cX12_settled 93 = .ok (.iconst (-1), 1) := by decide +kernel
theorem dX12_settled_94 : decode cX12_settled 94 = .ok (.ixor, 1) := by decide +kernel
theorem dX12_settled_95 : decode cX12_settled 95 = .ok (.iand, 1) := by decide +kernel
theorem dX12_settled_96 : decode cX12_settled 96 = .ok (.iaload, 1) := by decide +kernel
theorem dX12_settled_97 : decode cX12_settled 97 = .ok (.iconst 1, 1) := by decide +kernel
theorem dX12_settled_98 : decode cX12_settled 98 = .ok (.iadd, 1) := by decide +kernel
theorem dX12_settled_99 : decode cX12_settled 99 = .ok (.iastore, 1) := by decide +kernel
theorem dX12_settled_100 : decode cX12_settled 100 = .ok (.iload_n 3, 1) := by decide +kernel
theorem dX12_settled_101 : decode cX12_settled 101 = .ok (.iconst 1, 1) := by decide +kernel
theorem dX12_settled_102 : decode cX12_settled 102 = .ok (.isub, 1) := by decide +kernel
theorem dX12_settled_103 : decode cX12_settled 103 = .ok (.iload_n 2, 1) := by decide +kernel
theorem dX12_settled_104 : decode cX12_settled 104 = .ok (.iand, 1) := by decide +kernel
theorem dX12_settled_105 : decode cX12_settled 105 = .ok (.istore_n 3, 1) := by decide +kernel
theorem dX12_settled_106 : decode cX12_settled 106 = .ok (.goto (-70), 3) := by decide +kernel
theorem dX12_settled_109 : decode cX12_settled 109 = .ok (.aload_n 0, 1) := by decide +kernel
theorem dX12_settled_110 : decode cX12_settled 110 = .ok (.getfield 155, 3) := by decide +kernel
theorem dX12_settled_113 : decode cX12_settled 113 = .ok (.iload_n 2, 1) := by decide +kernel
theorem dX12_settled_114 : decode cX12_settled 114 = .ok (.iaload, 1) := by decide +kernel
theorem dX12_settled_115 : decode cX12_settled 115 = .ok (.iload_n 1, 1) := by decide +kernel
theorem dX12_settled_116 : decode cX12_settled 116 = .ok (.if_icmp .le 12, 3) := by decide +kernel
theorem dX12_settled_119 : decode cX12_settled 119 = .ok (.aload_n 0, 1) := by decide +kernel
theorem dX12_settled_120 : decode cX12_settled 120 = .ok (.getfield 155, 3) := by decide +kernel
theorem dX12_settled_123 : decode cX12_settled 123 = .ok (.iload_n 2, 1) := by decide +kernel
theorem dX12_settled_124 : decode cX12_settled 124 = .ok (.iaload, 1) := by decide +kernel
theorem dX12_settled_125 : decode cX12_settled 125 = .ok (.goto 4, 3) := by decide +kernel
theorem dX12_settled_128 : decode cX12_settled 128 = .ok (.iload_n 1, 1) := by decide +kernel
theorem dX12_settled_129 : decode cX12_settled 129 = .ok (.istore_n 1, 1) := by decide +kernel
theorem dX12_settled_130 : decode cX12_settled 130 = .ok (.iinc 2 1, 3) := by decide +kernel
theorem dX12_settled_133 : decode cX12_settled 133 = .ok (.goto (-124), 3) := by decide +kernel
theorem dX12_settled_136 : decode cX12_settled 136 = .ok (.aload_n 0, 1) := by decide +kernel
theorem dX12_settled_137 : decode cX12_settled 137 = .ok (.invokevirtual 312, 3) := by decide +kernel
theorem dX12_settled_140 : decode cX12_settled 140 = .ok (.iload_n 1, 1) := by decide +kernel
theorem dX12_settled_141 : decode cX12_settled 141 = .ok (.isub, 1) := by decide +kernel
theorem dX12_settled_142 : decode cX12_settled 142 = .ok (.ireturn, 1) := by decide +kernel
theorem dX12_isMissed_0 : decode cX12_isMissed 0 = .ok (.iconst 0, 1) := by decide +kernel
theorem dX12_isMissed_1 : decode cX12_isMissed 1 = .ok (.istore_n 3, 1) := by decide +kernel
theorem dX12_isMissed_2 : decode cX12_isMissed 2 = .ok (.iconst 0, 1) := by decide +kernel
theorem dX12_isMissed_3 : decode cX12_isMissed 3 = .ok (.istore 4, 2) := by decide +kernel
theorem dX12_isMissed_5 : decode cX12_isMissed 5 = .ok (.iload 4, 2) := by decide +kernel
theorem dX12_isMissed_7 : decode cX12_isMissed 7 = .ok (.aload_n 0, 1) := by decide +kernel
theorem dX12_isMissed_8 : decode cX12_isMissed 8 = .ok (.invokevirtual 312, 3) := by decide +kernel
theorem dX12_isMissed_11 : decode cX12_isMissed 11 = .ok (.if_icmp .ge 33, 3) := by decide +kernel
theorem dX12_isMissed_14 : decode cX12_isMissed 14 = .ok (.iload_n 3, 1) := by decide +kernel
theorem dX12_isMissed_15 : decode cX12_isMissed 15 = .ok (.iload_n 1, 1) := by decide +kernel
theorem dX12_isMissed_16 : decode cX12_isMissed 16 = .ok (.iload 4, 2) := by decide +kernel
theorem dX12_isMissed_18 : decode cX12_isMissed 18 = .ok (.ishr, 1) := by decide +kernel
theorem dX12_isMissed_19 : decode cX12_isMissed 19 = .ok (.iconst 1, 1) := by decide +kernel
theorem dX12_isMissed_20 : decode cX12_isMissed 20 = .ok (.iand, 1) := by decide +kernel
theorem dX12_isMissed_21 : decode cX12_isMissed 21 = .ok (.iconst 1, 1) := by decide +kernel
theorem dX12_isMissed_22 : decode cX12_isMissed 22 = .ok (.if_icmp .ne 13, 3) := by decide +kernel
theorem dX12_isMissed_25 : decode cX12_isMissed 25 = .ok (.aload_n 0, 1) := by decide +kernel
theorem dX12_isMissed_26 : decode cX12_isMissed 26 = .ok (.iload 4, 2) := by decide +kernel
theorem dX12_isMissed_28 : decode cX12_isMissed 28 = .ok (.iconst 3, 1) := by decide +kernel
theorem dX12_isMissed_29 : decode cX12_isMissed 29 = .ok (.invokevirtual 315, 3) := by decide +kernel
theorem dX12_isMissed_32 : decode cX12_isMissed 32 = .ok (.goto 4, 3) := by decide +kernel
theorem dX12_isMissed_35 : decode cX12_isMissed 35 = .ok (.iconst 0, 1) := by decide +kernel
theorem dX12_isMissed_36 : decode cX12_isMissed 36 = .ok (.iadd, 1) := by decide +kernel
theorem dX12_isMissed_37 : decode cX12_isMissed 37 = .ok (.istore_n 3, 1) := by decide +kernel
theorem dX12_isMissed_38 : decode cX12_isMissed 38 = .ok (.iinc 4 1, 3) := by decide +kernel
theorem dX12_isMissed_41 : decode cX12_isMissed 41 = .ok (.goto (-36), 3) := by decide +kernel
theorem dX12_isMissed_44 : decode cX12_isMissed 44 = .ok (.iload_n 3, 1) := by decide +kernel
theorem dX12_isMissed_45 : decode cX12_isMissed 45 = .ok (.iload_n 2, 1) := by decide +kernel
theorem dX12_isMissed_46 : decode cX12_isMissed 46 = .ok (.if_icmp .ne 7, 3) := by decide +kernel
theorem dX12_isMissed_49 : decode cX12_isMissed 49 = .ok (.iconst 1, 1) := by decide +kernel
theorem dX12_isMissed_50 : decode cX12_isMissed 50 = .ok (.goto 4, 3) := by decide +kernel
theorem dX12_isMissed_53 : decode cX12_isMissed 53 = .ok (.iconst 0, 1) := by decide +kernel
theorem dX12_isMissed_54 : decode cX12_isMissed 54 = .ok (.ireturn, 1) := by decide +kernel
theorem dX12_missedBy_0 : decode cX12_missedBy 0 = .ok (.iconst 0, 1) := by decide +kernel
theorem dX12_missedBy_1 : decode cX12_missedBy 1 = .ok (.istore_n 3, 1) := by decide +kernel
theorem dX12_missedBy_2 : decode cX12_missedBy 2 = .ok (.iconst 0, 1) := by decide +kernel
theorem dX12_missedBy_3 : decode cX12_missedBy 3 = .ok (.istore 4, 2) := by decide +kernel
theorem dX12_missedBy_5 : decode cX12_missedBy 5 = .ok (.iload 4, 2) := by decide +kernel
theorem dX12_missedBy_7 : decode cX12_missedBy 7 = .ok (.iconst 1, 1) := by decide +kernel
theorem dX12_missedBy_8 : decode cX12_missedBy 8 = .ok (.aload_n 0, 1) := by decide +kernel
theorem dX12_missedBy_9 : decode cX12_missedBy 9 = .ok (.invokevirtual 312, 3) := by decide +kernel
theorem dX12_missedBy_12 : decode cX12_missedBy 12 = .ok (.ishl, 1) := by decide +kernel
theorem dX12_missedBy_13 : decode cX12_missedBy 13 = .ok (.if_icmp .ge 41, 3) := by decide +kernel
theorem dX12_missedBy_16 : decode cX12_missedBy 16 = .ok (.iload_n 3, 1) := by decide +kernel
theorem dX12_missedBy_17 : decode cX12_missedBy 17 = .ok (.aload_n 0, 1) := by decide +kernel
theorem dX12_missedBy_18 : decode cX12_missedBy 18 = .ok (.iload 4, 2) := by decide +kernel
theorem dX12_missedBy_20 : decode cX12_missedBy 20 = .ok (.iload_n 1, 1) := by decide +kernel
theorem dX12_missedBy_21 : decode cX12_missedBy 21 = .ok (.invokevirtual 434, 3) := by decide +kernel
theorem dX12_missedBy_24 : decode cX12_missedBy 24 = .ok (.ifCond .eq 21, 3) := by decide +kernel
theorem dX12_missedBy_27 : decode cX12_missedBy 27 = .ok (.iload_n 2, 1) := by decide +kernel
theorem dX12_missedBy_28 : decode cX12_missedBy 28 = .ok (.ifCond .lt 13, 3) := by decide +kernel
theorem dX12_missedBy_31 : decode cX12_missedBy 31 = .ok (.iload 4, 2) := by decide +kernel
theorem dX12_missedBy_33 : decode cX12_missedBy 33 = .ok (.iload_n 2, 1) := by decide +kernel
theorem dX12_missedBy_34 : decode cX12_missedBy 34 = .ok (.ishr, 1) := by decide +kernel
theorem dX12_missedBy_35 : decode cX12_missedBy 35 = .ok (.iconst 1, 1) := by decide +kernel
theorem dX12_missedBy_36 : decode cX12_missedBy 36 = .ok (.iand, 1) := by decide +kernel
theorem dX12_missedBy_37 : decode cX12_missedBy 37 = .ok (.iconst 1, 1) := by decide +kernel
theorem dX12_missedBy_38 : decode cX12_missedBy 38 = .ok (.if_icmp .ne 7, 3) := by decide +kernel
theorem dX12_missedBy_41 : decode cX12_missedBy 41 = .ok (.iconst 1, 1) := by decide +kernel
theorem dX12_missedBy_42 : decode cX12_missedBy 42 = .ok (.goto 4, 3) := by decide +kernel
theorem dX12_missedBy_45 : decode cX12_missedBy 45 = .ok (.iconst 0, 1) := by decide +kernel
theorem dX12_missedBy_46 : decode cX12_missedBy 46 = .ok (.iadd, 1) := by decide +kernel
theorem dX12_missedBy_47 : decode cX12_missedBy 47 = .ok (.istore_n 3, 1) := by decide +kernel
theorem dX12_missedBy_48 : decode cX12_missedBy 48 = .ok (.iinc 4 1, 3) := by decide +kernel
theorem dX12_missedBy_51 : decode cX12_missedBy 51 = .ok (.goto (-46), 3) := by decide +kernel
theorem dX12_missedBy_54 : decode cX12_missedBy 54 = .ok (.iload_n 3, 1) := by decide +kernel
theorem dX12_missedBy_55 : decode cX12_missedBy 55 = .ok (.ireturn, 1) := by decide +kernel
theorem dX12_missed_0 : decode cX12_missed 0 = .ok (.aload_n 0, 1) := by decide +kernel
theorem dX12_missed_1 : decode cX12_missed 1 = .ok (.iconst 0, 1) := by decide +kernel
theorem dX12_missed_2 : decode cX12_missed 2 = .ok (.putfield 1, 3) := by decide +kernel
theorem dX12_missed_5 : decode cX12_missed 5 = .ok (.iload_n 1, 1) := by decide +kernel
theorem dX12_missed_6 : decode cX12_missed 6 = .ok (.iconst 0, 1) := by decide +kernel
theorem dX12_missed_7 : decode cX12_missed 7 = .ok (.bipush 99, 2) := by decide +kernel
theorem dX12_missed_9 : decode cX12_missed 9 = .ok (.invokestatic 372, 3) := by decide +kernel
theorem dX12_missed_12 : decode cX12_missed 12 = .ok (.ifCond .eq 12, 3) := by decide +kernel
theorem dX12_missed_15 : decode cX12_missed 15 = .ok (.iload_n 2, 1) := by decide +kernel
theorem dX12_missed_16 : decode cX12_missed 16 = .ok (.iconst 0, 1) := by decide +kernel
theorem dX12_missed_17 : decode cX12_missed 17 = .ok (.iconst 1, 1) := by decide +kernel
theorem dX12_missed_18 : decode cX12_missed 18 = .ok (.invokestatic 372, 3) := by decide +kernel
theorem dX12_missed_21 : decode cX12_missed 21 = .ok (.ifCond .ne 5, 3) := by decide +kernel
theorem dX12_missed_24 : decode cX12_missed 24 = .ok (.iconst (-1), 1) := by decide +kernel
theorem dX12_missed_25 : decode cX12_missed 25 = .ok (.ireturn, 1) := by decide +kernel
theorem dX12_missed_26 : decode cX12_missed 26 = .ok (.aload_n 0, 1) := by decide +kernel
theorem dX12_missed_27 : decode cX12_missed 27 = .ok (.iload_n 1, 1) := by decide +kernel
theorem dX12_missed_28 : decode cX12_missed 28 = .ok (.iconst (-1), 1) := by decide +kernel
theorem dX12_missed_29 : decode cX12_missed 29 = .ok (.invokevirtual 437, 3) := by decide +kernel
theorem dX12_missed_32 : decode cX12_missed 32 = .ok (.istore_n 3, 1) := by decide +kernel
theorem dX12_missed_33 : decode cX12_missed 33 = .ok (.iconst 0, 1) := by decide +kernel
theorem dX12_missed_34 : decode cX12_missed 34 = .ok (.istore 4, 2) := by decide +kernel
theorem dX12_missed_36 : decode cX12_missed 36 = .ok (.iconst 0, 1) := by decide +kernel
theorem dX12_missed_37 : decode cX12_missed 37 = .ok (.istore 5, 2) := by decide +kernel
theorem dX12_missed_39 : decode cX12_missed 39 = .ok (.iload 5, 2) := by decide +kernel
theorem dX12_missed_41 : decode cX12_missed 41 = .ok (.aload_n 0, 1) := by decide +kernel
theorem dX12_missed_42 : decode cX12_missed 42 = .ok (.invokevirtual 312, 3) := by decide +kernel
theorem dX12_missed_45 : decode cX12_missed 45 = .ok (.if_icmp .ge 37, 3) := by decide +kernel
theorem dX12_missed_48 : decode cX12_missed 48 = .ok (.iload 4, 2) := by decide +kernel
theorem dX12_missed_50 : decode cX12_missed 50 = .ok (.iload_n 3, 1) := by decide +kernel
theorem dX12_missed_51 : decode cX12_missed 51 = .ok (.ifCond .le 21, 3) := by decide +kernel
theorem dX12_missed_54 : decode cX12_missed 54 = .ok (.aload_n 0, 1) := by decide +kernel
theorem dX12_missed_55 : decode cX12_missed 55 = .ok (.iload_n 1, 1) := by decide +kernel
theorem dX12_missed_56 : decode cX12_missed 56 = .ok (.iload 5, 2) := by decide +kernel
theorem dX12_missed_58 : decode cX12_missed 58 = .ok (.invokevirtual 437, 3) := by decide +kernel
theorem dX12_missed_61 : decode cX12_missed 61 = .ok (.iload_n 3, 1) := by decide +kernel
theorem dX12_missed_62 : decode cX12_missed 62 = .ok (.if_icmp .ne 10, 3) := by decide +kernel
theorem dX12_missed_65 : decode cX12_missed 65 = .ok (.iconst 1, 1) := by decide +kernel
theorem dX12_missed_66 : decode cX12_missed 66 = .ok (.iload 5, 2) := by decide +kernel
theorem dX12_missed_68 : decode cX12_missed 68 = .ok (.ishl, 1) := by decide +kernel
theorem dX12_missed_69 : decode cX12_missed 69 = .ok (.goto 4, 3) := by decide +kernel
theorem dX12_missed_72 : decode cX12_missed 72 = .ok (.iconst 0, 1) := by decide +kernel
theorem dX12_missed_73 : decode cX12_missed 73 = .ok (.ior, 1) := by decide +kernel
theorem dX12_missed_74 : decode cX12_missed 74 = .ok (.istore 4, 2) := by decide +kernel
theorem dX12_missed_76 : decode cX12_missed 76 = .ok (.iinc 5 1, 3) := by decide +kernel
theorem dX12_missed_79 : decode cX12_missed 79 = .ok (.goto (-40), 3) := by decide +kernel
theorem dX12_missed_82 : decode cX12_missed 82 = .ok (.iload_n 2, 1) := by decide +kernel
theorem dX12_missed_83 : decode cX12_missed 83 = .ok (.ifCond .ne 7, 3) := by decide +kernel
theorem dX12_missed_86 : decode cX12_missed 86 = .ok (.iload_n 3, 1) := by decide +kernel
theorem dX12_missed_87 : decode cX12_missed 87 = .ok (.goto 5, 3) := by decide +kernel
theorem dX12_missed_90 : decode cX12_missed 90 = .ok (.iload 4, 2) := by decide +kernel
theorem dX12_missed_92 : decode cX12_missed 92 = .ok (.ireturn, 1) := by decide +kernel
theorem dX12_common_0 : decode cX12_common 0 = .ok (.iload_n 0, 1) := by decide +kernel
theorem dX12_common_1 : decode cX12_common 1 = .ok (.istore_n 2, 1) := by decide +kernel
theorem dX12_common_2 : decode cX12_common 2 = .ok (.iload_n 1, 1) := by decide +kernel
theorem dX12_common_3 : decode cX12_common 3 = .ok (.istore_n 3, 1) := by decide +kernel
theorem dX12_common_4 : decode cX12_common 4 = .ok (.iload_n 3, 1) := by decide +kernel
theorem dX12_common_5 : decode cX12_common 5 = .ok (.ifCond .eq 16, 3) := by decide +kernel
theorem dX12_common_8 : decode cX12_common 8 = .ok (.iload_n 2, 1) := by decide +kernel
theorem dX12_common_9 : decode cX12_common 9 = .ok (.iload_n 3, 1) := by decide +kernel
theorem dX12_common_10 : decode cX12_common 10 = .ok (.irem, 1) := by decide +kernel
theorem dX12_common_11 : decode cX12_common 11 = .ok (.istore 4, 2) := by decide +kernel
theorem dX12_common_13 : decode cX12_common 13 = .ok (.iload_n 3, 1) := by decide +kernel
theorem dX12_common_14 : decode cX12_common 14 = .ok (.istore_n 2, 1) := by decide +kernel
theorem dX12_common_15 : decode cX12_common 15 = .ok (.iload 4, 2) := by decide +kernel
theorem dX12_common_17 : decode cX12_common 17 = .ok (.istore_n 3, 1) := by decide +kernel
theorem dX12_common_18 : decode cX12_common 18 = .ok (.goto (-14), 3) := by decide +kernel
theorem dX12_common_21 : decode cX12_common 21 = .ok (.iload_n 2, 1) := by decide +kernel
theorem dX12_common_22 : decode cX12_common 22 = .ok (.ireturn, 1) := by decide +kernel
theorem dX12_odds_0 : decode cX12_odds 0 = .ok (.aload_n 0, 1) := by decide +kernel
theorem dX12_odds_1 : decode cX12_odds 1 = .ok (.iconst 0, 1) := by decide +kernel
theorem dX12_odds_2 : decode cX12_odds 2 = .ok (.putfield 1, 3) := by decide +kernel
theorem dX12_odds_5 : decode cX12_odds 5 = .ok (.iload_n 1, 1) := by decide +kernel
theorem dX12_odds_6 : decode cX12_odds 6 = .ok (.iconst 0, 1) := by decide +kernel
theorem dX12_odds_7 : decode cX12_odds 7 = .ok (.bipush 99, 2) := by decide +kernel
theorem dX12_odds_9 : decode cX12_odds 9 = .ok (.invokestatic 372, 3) := by decide +kernel
theorem dX12_odds_12 : decode cX12_odds 12 = .ok (.ifCond .eq 29, 3) := by decide +kernel
theorem dX12_odds_15 : decode cX12_odds 15 = .ok (.aload_n 0, 1) := by decide +kernel
theorem dX12_odds_16 : decode cX12_odds 16 = .ok (.iload_n 2, 1) := by decide +kernel
theorem dX12_odds_17 : decode cX12_odds 17 = .ok (.invokevirtual 363, 3) := by decide +kernel
theorem dX12_odds_20 : decode cX12_odds 20 = .ok (.ifCond .eq 21, 3) := by decide +kernel
theorem dX12_odds_23 : decode cX12_odds 23 = .ok (.iload_n 3, 1) := by decide +kernel
theorem dX12_odds_24 : decode cX12_odds 24 = .ok (.iconst 0, 1) := by decide +kernel
theorem dX12_odds_25 : decode cX12_odds 25 = .ok (.iconst 1, 1) := by decide +kernel
theorem dX12_odds_26 : decode cX12_odds 26 = .ok (.invokestatic 372, 3) := by decide +kernel
theorem dX12_odds_29 : decode cX12_odds 29 = .ok (.ifCond .eq 12, 3) := by decide +kernel
theorem dX12_odds_32 : decode cX12_odds 32 = .ok (.aload_n 0, 1) := by decide +kernel
theorem dX12_odds_33 : decode cX12_odds 33 = .ok (.iload_n 1, 1) := by decide +kernel
theorem dX12_odds_34 : decode cX12_odds 34 = .ok (.iconst (-1), 1) := by decide +kernel
theorem dX12_odds_35 : decode cX12_odds 35 = .ok (.invokevirtual 437, 3) := by decide +kernel
theorem dX12_odds_38 : decode cX12_odds 38 = .ok (.ifCond .ne 5, 3) := by decide +kernel
theorem dX12_odds_41 : decode cX12_odds 41 = .ok (.iconst (-1), 1) := by decide +kernel
theorem dX12_odds_42 : decode cX12_odds 42 = .ok (.ireturn, 1) := by decide +kernel
theorem dX12_odds_43 : decode cX12_odds 43 = .ok (.aload_n 0, 1) := by decide +kernel
theorem dX12_odds_44 : decode cX12_odds 44 = .ok (.iload_n 1, 1) := by decide +kernel
theorem dX12_odds_45 : decode cX12_odds 45 = .ok (.iload_n 2, 1) := by decide +kernel
theorem dX12_odds_46 : decode cX12_odds 46 = .ok (.invokevirtual 437, 3) := by decide +kernel
theorem dX12_odds_49 : decode cX12_odds 49 = .ok (.aload_n 0, 1) := by decide +kernel
theorem dX12_odds_50 : decode cX12_odds 50 = .ok (.iload_n 1, 1) := by decide +kernel
theorem dX12_odds_51 : decode cX12_odds 51 = .ok (.iconst (-1), 1) := by decide +kernel
theorem dX12_odds_52 : decode cX12_odds 52 = .ok (.invokevirtual 437, 3) := by decide +kernel
theorem dX12_odds_55 : decode cX12_odds 55 = .ok (.invokestatic 440, 3) := by decide +kernel
theorem dX12_odds_58 : decode cX12_odds 58 = .ok (.istore 4, 2) := by decide +kernel
theorem dX12_odds_60 : decode cX12_odds 60 = .ok (.iload_n 3, 1) := by decide +kernel
theorem dX12_odds_61 : decode cX12_odds 61 = .ok (.ifCond .ne 12, 3) := by decide +kernel
theorem dX12_odds_64 : decode cX12_odds 64 = .ok (.aload_n 0, 1) := by decide +kernel
theorem dX12_odds_65 : decode cX12_odds 65 = .ok (.iload_n 1, 1) := by decide +kernel
theorem dX12_odds_66 : decode cX12_odds 66 = .ok (.iload_n 2, 1) := by decide +kernel
theorem dX12_odds_67 : decode cX12_odds 67 = .ok (.invokevirtual 437, 3) := by decide +kernel
theorem dX12_odds_70 : decode cX12_odds 70 = .ok (.goto 9, 3) := by decide +kernel
theorem dX12_odds_73 : decode cX12_odds 73 = .ok (.aload_n 0, 1) := by decide +kernel
theorem dX12_odds_74 : decode cX12_odds 74 = .ok (.iload_n 1, 1) := by decide +kernel
theorem dX12_odds_75 : decode cX12_odds 75 = .ok (.iconst (-1), 1) := by decide +kernel
theorem dX12_odds_76 : decode cX12_odds 76 = .ok (.invokevirtual 437, 3) := by decide +kernel
theorem dX12_odds_79 : decode cX12_odds 79 = .ok (.iload 4, 2) := by decide +kernel
theorem dX12_odds_81 : decode cX12_odds 81 = .ok (.idiv, 1) := by decide +kernel
theorem dX12_odds_82 : decode cX12_odds 82 = .ok (.ireturn, 1) := by decide +kernel
theorem dX12_patch_0 : decode cX12_patch 0 = .ok (.aload_n 0, 1) := by decide +kernel
theorem dX12_patch_1 : decode cX12_patch 1 = .ok (.iconst 0, 1) := by decide +kernel
theorem dX12_patch_2 : decode cX12_patch 2 = .ok (.putfield 1, 3) := by decide +kernel
theorem dX12_patch_5 : decode cX12_patch 5 = .ok (.aload_n 0, 1) := by decide +kernel
theorem dX12_patch_6 : decode cX12_patch 6 = .ok (.iload_n 1, 1) := by decide +kernel
theorem dX12_patch_7 : decode cX12_patch 7 = .ok (.invokevirtual 363, 3) := by decide +kernel
theorem dX12_patch_10 : decode cX12_patch 10 = .ok (.ifCond .eq 12, 3) := by decide +kernel
theorem dX12_patch_13 : decode cX12_patch 13 = .ok (.aload_n 0, 1) := by decide +kernel
theorem dX12_patch_14 : decode cX12_patch 14 = .ok (.iload_n 1, 1) := by decide +kernel
theorem dX12_patch_15 : decode cX12_patch 15 = .ok (.invokevirtual 327, 3) := by decide +kernel
theorem dX12_patch_18 : decode cX12_patch 18 = .ok (.iload_n 2, 1) := by decide +kernel
theorem dX12_patch_19 : decode cX12_patch 19 = .ok (.if_icmp .ne 5, 3) := by decide +kernel
theorem dX12_patch_22 : decode cX12_patch 22 = .ok (.iconst 0, 1) := by decide +kernel
theorem dX12_patch_23 : decode cX12_patch 23 = .ok (.ireturn, 1) := by decide +kernel
theorem dX12_patch_24 : decode cX12_patch 24 = .ok (.aload_n 0, 1) := by decide +kernel
theorem dX12_patch_25 : decode cX12_patch 25 = .ok (.invokevirtual 428, 3) := by decide +kernel
theorem dX12_patch_28 : decode cX12_patch 28 = .ok (.aload_n 0, 1) := by decide +kernel
theorem dX12_patch_29 : decode cX12_patch 29 = .ok (.getfield 127, 3) := by decide +kernel
theorem dX12_patch_32 : decode cX12_patch 32 = .ok (.bipush 36, 2) := by decide +kernel
theorem dX12_patch_34 : decode cX12_patch 34 = .ok (.dup2, 1) := by decide +kernel
theorem dX12_patch_35 : decode cX12_patch 35 = .ok (.iaload, 1) := by decide +kernel
theorem dX12_patch_36 : decode cX12_patch 36 = .ok (.iconst 1, 1) := by decide +kernel
theorem dX12_patch_37 : decode cX12_patch 37 = .ok (.iload_n 1, 1) := by decide +kernel
theorem dX12_patch_38 : decode cX12_patch 38 = .ok (.ishl, 1) := by decide +kernel
theorem dX12_patch_39 : decode cX12_patch 39 = .ok (.ixor, 1) := by decide +kernel
theorem dX12_patch_40 : decode cX12_patch 40 = .ok (.iastore, 1) := by decide +kernel
theorem dX12_patch_41 : decode cX12_patch 41 = .ok (.iconst 1, 1) := by decide +kernel
theorem dX12_patch_42 : decode cX12_patch 42 = .ok (.ireturn, 1) := by decide +kernel
theorem dX12_undo_0 : decode cX12_undo 0 = .ok (.aload_n 0, 1) := by decide +kernel
theorem dX12_undo_1 : decode cX12_undo 1 = .ok (.iconst 0, 1) := by decide +kernel
theorem dX12_undo_2 : decode cX12_undo 2 = .ok (.putfield 1, 3) := by decide +kernel
theorem dX12_undo_5 : decode cX12_undo 5 = .ok (.aload_n 0, 1) := by decide +kernel
theorem dX12_undo_6 : decode cX12_undo 6 = .ok (.getfield 231, 3) := by decide +kernel
theorem dX12_undo_9 : decode cX12_undo 9 = .ok (.ifCond .ne 5, 3) := by decide +kernel
theorem dX12_undo_12 : decode cX12_undo 12 = .ok (.iconst 0, 1) := by decide +kernel
theorem dX12_undo_13 : decode cX12_undo 13 = .ok (.ireturn, 1) := by decide +kernel
theorem dX12_undo_14 : decode cX12_undo 14 = .ok (.aload_n 0, 1) := by decide +kernel
theorem dX12_undo_15 : decode cX12_undo 15 = .ok (.dup, 1) := by decide +kernel
theorem dX12_undo_16 : decode cX12_undo 16 = .ok (.getfield 231, 3) := by decide +kernel
theorem dX12_undo_19 : decode cX12_undo 19 = .ok (.iconst 1, 1) := by decide +kernel
theorem dX12_undo_20 : decode cX12_undo 20 = .ok (.isub, 1) := by decide +kernel
theorem dX12_undo_21 : decode cX12_undo 21 = .ok (.putfield 231, 3) := by decide +kernel
theorem dX12_undo_24 : decode cX12_undo 24 = .ok (.aload_n 0, 1) := by decide +kernel
theorem dX12_undo_25 : decode cX12_undo 25 = .ok (.iconst 5, 1) := by decide +kernel
theorem dX12_undo_26 : decode cX12_undo 26 = .ok (.aload_n 0, 1) := by decide +kernel
theorem dX12_undo_27 : decode cX12_undo 27 = .ok (.getfield 231, 3) := by decide +kernel
theorem dX12_undo_30 : decode cX12_undo 30 = .ok (.iadd, 1) := by decide +kernel
theorem dX12_undo_31 : decode cX12_undo 31 = .ok (.iconst 0, 1) := by decide +kernel
theorem dX12_undo_32 : decode cX12_undo 32 = .ok (.bipush 37, 2) := by decide +kernel
theorem dX12_undo_34 : decode cX12_undo 34 = .ok (.invokevirtual 305, 3) := by decide +kernel
theorem dX12_undo_37 : decode cX12_undo 37 = .ok (.iconst 1, 1) := by decide +kernel
theorem dX12_undo_38 : decode cX12_undo 38 = .ok (.ireturn, 1) := by decide +kernel
theorem dX12_mark_0 : decode cX12_mark 0 = .ok (.aload_n 0, 1) := by decide +kernel
theorem dX12_mark_1 : decode cX12_mark 1 = .ok (.iconst 0, 1) := by decide +kernel
theorem dX12_mark_2 : decode cX12_mark 2 = .ok (.putfield 1, 3) := by decide +kernel
theorem dX12_mark_5 : decode cX12_mark 5 = .ok (.iload_n 1, 1) := by decide +kernel
theorem dX12_mark_6 : decode cX12_mark 6 = .ok (.iconst 0, 1) := by decide +kernel
theorem dX12_mark_7 : decode cX12_mark 7 = .ok (.iconst 3, 1) := by decide +kernel
theorem dX12_mark_8 : decode cX12_mark 8 = .ok (.invokestatic 372, 3) := by decide +kernel
theorem dX12_mark_11 : decode cX12_mark 11 = .ok (.ifCond .eq 16, 3) := by decide +kernel
theorem dX12_mark_14 : decode cX12_mark 14 = .ok (.iload_n 2, 1) := by decide +kernel
theorem dX12_mark_15 : decode cX12_mark 15 = .ok (.ifCond .eq 14, 3) := by decide +kernel
theorem dX12_mark_18 : decode cX12_mark 18 = .ok (.aload_n 0, 1) := by decide +kernel
theorem dX12_mark_19 : decode cX12_mark 19 = .ok (.getfield 130, 3) := by decide +kernel
theorem dX12_mark_22 : decode cX12_mark 22 = .ok (.iload_n 1, 1) := by decide +kernel
theorem dX12_mark_23 : decode cX12_mark 23 = .ok (.baload, 1) := by decide +kernel
theorem dX12_mark_24 : decode cX12_mark 24 = .ok (.ifCond .ne 5, 3) := by decide +kernel
theorem dX12_mark_27 : decode cX12_mark 27 = .ok (.iconst 0, 1) := by decide +kernel
theorem dX12_mark_28 : decode cX12_mark 28 = .ok (.ireturn, 1) := by decide +kernel
theorem dX12_mark_29 : decode cX12_mark 29 = .ok (.iload_n 2, 1) := by decide +kernel
theorem dX12_mark_30 : decode cX12_mark 30 = .ok (.ifCond .eq 22, 3) := by decide +kernel
theorem dX12_mark_33 : decode cX12_mark 33 = .ok (.aload_n 0, 1) := by decide +kernel
theorem dX12_mark_34 : decode cX12_mark 34 = .ok (.iconst 1, 1) := by decide +kernel
theorem dX12_mark_35 : decode cX12_mark 35 = .ok (.iload_n 1, 1) := by decide +kernel
theorem dX12_mark_36 : decode cX12_mark 36 = .ok (.iadd, 1) := by decide +kernel
theorem dX12_mark_37 : decode cX12_mark 37 = .ok (.iconst 0, 1) := by decide +kernel
theorem dX12_mark_38 : decode cX12_mark 38 = .ok (.sipush 240, 3) := by decide +kernel
theorem dX12_mark_41 : decode cX12_mark 41 = .ok (.invokevirtual 305, 3) := by decide +kernel
theorem dX12_mark_44 : decode cX12_mark 44 = .ok (.aload_n 0, 1) := by decide +kernel
theorem dX12_mark_45 : decode cX12_mark 45 = .ok (.iconst 0, 1) := by decide +kernel
theorem dX12_mark_46 : decode cX12_mark 46 = .ok (.putfield 231, 3) := by decide +kernel
theorem dX12_mark_49 : decode cX12_mark 49 = .ok (.goto 21, 3) := by decide +kernel
theorem dX12_mark_52 : decode cX12_mark 52 = .ok (.aload_n 0, 1) := by decide +kernel
theorem dX12_mark_53 : decode cX12_mark 53 = .ok (.getfield 130, 3) := by decide +kernel
theorem dX12_mark_56 : decode cX12_mark 56 = .ok (.iload_n 1, 1) := by decide +kernel
theorem dX12_mark_57 : decode cX12_mark 57 = .ok (.iconst 1, 1) := by decide +kernel
theorem dX12_mark_58 : decode cX12_mark 58 = .ok (.bastore, 1) := by decide +kernel
theorem dX12_mark_59 : decode cX12_mark 59 = .ok (.aload_n 0, 1) := by decide +kernel
theorem dX12_mark_60 : decode cX12_mark 60 = .ok (.iconst 0, 1) := by decide +kernel
theorem dX12_mark_61 : decode cX12_mark 61 = .ok (.iconst 1, 1) := by decide +kernel
theorem dX12_mark_62 : decode cX12_mark 62 = .ok (.iload_n 1, 1) := by decide +kernel
theorem dX12_mark_63 : decode cX12_mark 63 = .ok (.iadd, 1) := by decide +kernel
theorem dX12_mark_64 : decode cX12_mark 64 = .ok (.sipush 240, 3) := by decide +kernel
theorem dX12_mark_67 : decode cX12_mark 67 = .ok (.invokevirtual 305, 3) := by decide +kernel
theorem dX12_mark_70 : decode cX12_mark 70 = .ok (.iconst 1, 1) := by decide +kernel
theorem dX12_mark_71 : decode cX12_mark 71 = .ok (.ireturn, 1) := by decide +kernel
theorem dX12_count_0 : decode cX12_count 0 = .ok (.aload_n 0, 1) := by decide +kernel
theorem dX12_count_1 : decode cX12_count 1 = .ok (.iconst 0, 1) := by decide +kernel
theorem dX12_count_2 : decode cX12_count 2 = .ok (.putfield 1, 3) := by decide +kernel
theorem dX12_count_5 : decode cX12_count 5 = .ok (.iload_n 1, 1) := by decide +kernel
theorem dX12_count_6 : decode cX12_count 6 = .ok (.tableswitch 108 0 8 #[50, 55, 62, 67, 75, 83, 90, 98, 103], 50) := by decide +kernel
theorem dX12_count_56 : decode cX12_count 56 = .ok (.aload_n 0, 1) := by decide +kernel
theorem dX12_count_57 : decode cX12_count 57 = .ok (.invokevirtual 309, 3) := by decide +kernel
theorem dX12_count_60 : decode cX12_count 60 = .ok (.ireturn, 1) := by decide +kernel
theorem dX12_count_61 : decode cX12_count 61 = .ok (.aload_n 0, 1) := by decide +kernel
theorem dX12_count_62 : decode cX12_count 62 = .ok (.getfield 97, 3) := by decide +kernel
theorem dX12_count_65 : decode cX12_count 65 = .ok (.iconst 1, 1) := by decide +kernel
theorem dX12_count_66 : decode cX12_count 66 = .ok (.iaload, 1) := by decide +kernel
theorem dX12_count_67 : decode cX12_count 67 = .ok (.ireturn, 1) := by decide +kernel
theorem dX12_count_68 : decode cX12_count 68 = .ok (.aload_n 0, 1) := by decide +kernel
theorem dX12_count_69 : decode cX12_count 69 = .ok (.invokevirtual 312, 3) := by decide +kernel
theorem dX12_count_72 : decode cX12_count 72 = .ok (.ireturn, 1) := by decide +kernel
theorem dX12_count_73 : decode cX12_count 73 = .ok (.aload_n 0, 1) := by decide +kernel
theorem dX12_count_74 : decode cX12_count 74 = .ok (.getfield 127, 3) := by decide +kernel
theorem dX12_count_77 : decode cX12_count 77 = .ok (.bipush 38, 2) := by decide +kernel
theorem dX12_count_79 : decode cX12_count 79 = .ok (.iaload, 1) := by decide +kernel
theorem dX12_count_80 : decode cX12_count 80 = .ok (.ireturn, 1) := by decide +kernel
theorem dX12_count_81 : decode cX12_count 81 = .ok (.aload_n 0, 1) := by decide +kernel
theorem dX12_count_82 : decode cX12_count 82 = .ok (.getfield 127, 3) := by decide +kernel
theorem dX12_count_85 : decode cX12_count 85 = .ok (.bipush 39, 2) := by decide +kernel
theorem dX12_count_87 : decode cX12_count 87 = .ok (.iaload, 1) := by decide +kernel
theorem dX12_count_88 : decode cX12_count 88 = .ok (.ireturn, 1) := by decide +kernel
theorem dX12_count_89 : decode cX12_count 89 = .ok (.aload_n 0, 1) := by decide +kernel
theorem dX12_count_90 : decode cX12_count 90 = .ok (.getfield 97, 3) := by decide +kernel
theorem dX12_count_93 : decode cX12_count 93 = .ok (.iconst 5, 1) := by decide +kernel
theorem dX12_count_94 : decode cX12_count 94 = .ok (.iaload, 1) := by decide +kernel
theorem dX12_count_95 : decode cX12_count 95 = .ok (.ireturn, 1) := by decide +kernel
theorem dX12_count_96 : decode cX12_count 96 = .ok (.aload_n 0, 1) := by decide +kernel
theorem dX12_count_97 : decode cX12_count 97 = .ok (.getfield 127, 3) := by decide +kernel
theorem dX12_count_100 : decode cX12_count 100 = .ok (.bipush 42, 2) := by decide +kernel
theorem dX12_count_102 : decode cX12_count 102 = .ok (.iaload, 1) := by decide +kernel
theorem dX12_count_103 : decode cX12_count 103 = .ok (.ireturn, 1) := by decide +kernel
theorem dX12_count_104 : decode cX12_count 104 = .ok (.aload_n 0, 1) := by decide +kernel
theorem dX12_count_105 : decode cX12_count 105 = .ok (.getfield 231, 3) := by decide +kernel
theorem dX12_count_108 : decode cX12_count 108 = .ok (.ireturn, 1) := by decide +kernel
theorem dX12_count_109 : decode cX12_count 109 = .ok (.aload_n 0, 1) := by decide +kernel
theorem dX12_count_110 : decode cX12_count 110 = .ok (.getfield 11, 3) := by decide +kernel
theorem dX12_count_113 : decode cX12_count 113 = .ok (.ireturn, 1) := by decide +kernel
theorem dX12_count_114 : decode cX12_count 114 = .ok (.iconst (-1), 1) := by decide +kernel
theorem dX12_count_115 : decode cX12_count 115 = .ok (.ireturn, 1) := by decide +kernel
