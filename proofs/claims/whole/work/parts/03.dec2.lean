/-! ===== decode rows, the reference ===== -/
theorem dX12_thrown_0 : decode cX12_thrown 0 = .ok (.aload_n 0, 1) := by decide +kernel
theorem dX12_thrown_1 : decode cX12_thrown 1 = .ok (.getfield 1, 3) := by decide +kernel
theorem dX12_thrown_4 : decode cX12_thrown 4 = .ok (.ireturn, 1) := by decide +kernel
theorem dX12_feed_0 : decode cX12_feed 0 = .ok (.aload_n 0, 1) := by decide +kernel
theorem dX12_feed_1 : decode cX12_feed 1 = .ok (.iconst 0, 1) := by decide +kernel
theorem dX12_feed_2 : decode cX12_feed 2 = .ok (.putfield 1, 3) := by decide +kernel
theorem dX12_feed_5 : decode cX12_feed 5 = .ok (.aload_n 0, 1) := by decide +kernel
theorem dX12_feed_6 : decode cX12_feed 6 = .ok (.lload_n 1, 1) := by decide +kernel
theorem dX12_feed_7 : decode cX12_feed 7 = .ok (.invokevirtual 7, 3) := by decide +kernel
theorem dX12_feed_10 : decode cX12_feed 10 = .ok (.aload_n 0, 1) := by decide +kernel
theorem dX12_feed_11 : decode cX12_feed 11 = .ok (.lload_n 3, 1) := by decide +kernel
theorem dX12_feed_12 : decode cX12_feed 12 = .ok (.invokevirtual 7, 3) := by decide +kernel
theorem dX12_feed_15 : decode cX12_feed 15 = .ok (.aload_n 0, 1) := by decide +kernel
theorem dX12_feed_16 : decode cX12_feed 16 = .ok (.lload 5, 2) := by decide +kernel
theorem dX12_feed_18 : decode cX12_feed 18 = .ok (.invokevirtual 7, 3) := by decide +kernel
theorem dX12_feed_21 : decode cX12_feed 21 = .ok (.aload_n 0, 1) := by decide +kernel
theorem dX12_feed_22 : decode cX12_feed 22 = .ok (.getfield 11, 3) := by decide +kernel
theorem dX12_feed_25 : decode cX12_feed 25 = .ok (.ireturn, 1) := by decide +kernel
theorem dX12_lay_0 : decode cX12_lay 0 = .ok (.bipush 56, 2) := by decide +kernel
theorem dX12_lay_2 : decode cX12_lay 2 = .ok (.istore_n 3, 1) := by decide +kernel
theorem dX12_lay_3 : decode cX12_lay 3 = .ok (.iload_n 3, 1) := by decide +kernel
theorem dX12_lay_4 : decode cX12_lay 4 = .ok (.ifCond .lt 71, 3) := by decide +kernel
theorem dX12_lay_7 : decode cX12_lay 7 = .ok (.lload_n 1, 1) := by decide +kernel
theorem dX12_lay_8 : decode cX12_lay 8 = .ok (.iload_n 3, 1) := by decide +kernel
theorem dX12_lay_9 : decode cX12_lay 9 = .ok (.lshr, 1) := by decide +kernel
theorem dX12_lay_10 : decode cX12_lay 10 = .ok (.l2i, 1) := by decide +kernel
theorem dX12_lay_11 : decode cX12_lay 11 = .ok (.sipush 255, 3) := by decide +kernel
theorem dX12_lay_14 : decode cX12_lay 14 = .ok (.iand, 1) := by decide +kernel
theorem dX12_lay_15 : decode cX12_lay 15 = .ok (.istore 4, 2) := by decide +kernel
theorem dX12_lay_17 : decode cX12_lay 17 = .ok (.iload 4, 2) := by decide +kernel
theorem dX12_lay_19 : decode cX12_lay 19 = .ok (.bipush 10, 2) := by decide +kernel
theorem dX12_lay_21 : decode cX12_lay 21 = .ok (.if_icmp .eq 17, 3) := by decide +kernel
theorem dX12_lay_24 : decode cX12_lay 24 = .ok (.iload 4, 2) := by decide +kernel
theorem dX12_lay_26 : decode cX12_lay 26 = .ok (.bipush 32, 2) := by decide +kernel
theorem dX12_lay_28 : decode cX12_lay 28 = .ok (.if_icmp .lt 41, 3) := by decide +kernel
theorem dX12_lay_31 : decode cX12_lay 31 = .ok (.iload 4, 2) := by decide +kernel
theorem dX12_lay_33 : decode cX12_lay 33 = .ok (.bipush 126, 2) := by decide +kernel
theorem dX12_lay_35 : decode cX12_lay 35 = .ok (.if_icmp .gt 34, 3) := by decide +kernel
theorem dX12_lay_38 : decode cX12_lay 38 = .ok (.aload_n 0, 1) := by decide +kernel
theorem dX12_lay_39 : decode cX12_lay 39 = .ok (.getfield 11, 3) := by decide +kernel
theorem dX12_lay_42 : decode cX12_lay 42 = .ok (.sipush 1000, 3) := by decide +kernel
theorem dX12_lay_45 : decode cX12_lay 45 = .ok (.if_icmp .ge 24, 3) := by decide +kernel
theorem dX12_lay_48 : decode cX12_lay 48 = .ok (.aload_n 0, 1) := by decide +kernel
theorem dX12_lay_49 : decode cX12_lay 49 = .ok (.getfield 14, 3) := by decide +kernel
theorem dX12_lay_52 : decode cX12_lay 52 = .ok (.aload_n 0, 1) := by decide +kernel
theorem dX12_lay_53 : decode cX12_lay 53 = .ok (.getfield 11, 3) := by decide +kernel
theorem dX12_lay_56 : decode cX12_lay 56 = .ok (.iload 4, 2) := by decide +kernel
theorem dX12_lay_58 : decode cX12_lay 58 = .ok (.iastore, 1) := by decide +kernel
theorem dX12_lay_59 : decode cX12_lay 59 = .ok (.aload_n 0, 1) := by decide +kernel
theorem dX12_lay_60 : decode cX12_lay 60 = .ok (.dup, 1) := by decide +kernel
theorem dX12_lay_61 : decode cX12_lay 61 = .ok (.getfield 11, 3) := by decide +kernel
theorem dX12_lay_64 : decode cX12_lay 64 = .ok (.iconst 1, 1) := by decide +kernel
theorem dX12_lay_65 : decode cX12_lay 65 = .ok (.iadd, 1) := by decide +kernel
theorem dX12_lay_66 : decode cX12_lay 66 = .ok (.putfield 11, 3) := by decide +kernel
theorem dX12_lay_69 : decode cX12_lay 69 = .ok (.iinc 3 (-8), 3) := by decide +kernel
theorem dX12_lay_72 : decode cX12_lay 72 = .ok (.goto (-69), 3) := by decide +kernel
theorem dX12_lay_75 : decode cX12_lay 75 = .ok (.return_, 1) := by decide +kernel
theorem dX12_init_0 : decode cX12_init 0 = .ok (.aload_n 0, 1) := by decide +kernel
theorem dX12_init_1 : decode cX12_init 1 = .ok (.invokespecial 18, 3) := by decide +kernel
theorem dX12_init_4 : decode cX12_init 4 = .ok (.aload_n 0, 1) := by decide +kernel
theorem dX12_init_5 : decode cX12_init 5 = .ok (.sipush 1000, 3) := by decide +kernel
theorem dX12_init_8 : decode cX12_init 8 = .ok (.newarray .int, 2) := by decide +kernel
theorem dX12_init_10 : decode cX12_init 10 = .ok (.putfield 14, 3) := by decide +kernel
theorem dX12_init_13 : decode cX12_init 13 = .ok (.aload_n 0, 1) := by decide +kernel
theorem dX12_init_14 : decode cX12_init 14 = .ok (.sipush 1002, 3) := by decide +kernel
theorem dX12_init_17 : decode cX12_init 17 = .ok (.newarray .int, 2) := by decide +kernel
theorem dX12_init_19 : decode cX12_init 19 = .ok (.putfield 24, 3) := by decide +kernel
theorem dX12_init_22 : decode cX12_init 22 = .ok (.aload_n 0, 1) := by decide +kernel
theorem dX12_init_23 : decode cX12_init 23 = .ok (.sipush 1002, 3) := by decide +kernel
theorem dX12_init_26 : decode cX12_init 26 = .ok (.newarray .int, 2) := by decide +kernel
theorem dX12_init_28 : decode cX12_init 28 = .ok (.putfield 27, 3) := by decide +kernel
theorem dX12_init_31 : decode cX12_init 31 = .ok (.aload_n 0, 1) := by decide +kernel
theorem dX12_init_32 : decode cX12_init 32 = .ok (.sipush 1002, 3) := by decide +kernel
theorem dX12_init_35 : decode cX12_init 35 = .ok (.newarray .long, 2) := by decide +kernel
theorem dX12_init_37 : decode cX12_init 37 = .ok (.putfield 30, 3) := by decide +kernel
theorem dX12_init_40 : decode cX12_init 40 = .ok (.aload_n 0, 1) := by decide +kernel
theorem dX12_init_41 : decode cX12_init 41 = .ok (.bipush 19, 2) := by decide +kernel
theorem dX12_init_43 : decode cX12_init 43 = .ok (.newarray .long, 2) := by decide +kernel
theorem dX12_init_45 : decode cX12_init 45 = .ok (.dup, 1) := by decide +kernel
theorem dX12_init_46 : decode cX12_init 46 = .ok (.iconst 0, 1) := by decide +kernel
theorem dX12_init_47 : decode cX12_init 47 = .ok (.ldc2_w 34, 3) := by decide +kernel
theorem dX12_init_50 : decode cX12_init 50 = .ok (.lastore, 1) := by decide +kernel
theorem dX12_init_51 : decode cX12_init 51 = .ok (.dup, 1) := by decide +kernel
theorem dX12_init_52 : decode cX12_init 52 = .ok (.iconst 1, 1) := by decide +kernel
theorem dX12_init_53 : decode cX12_init 53 = .ok (.ldc2_w 36, 3) := by decide +kernel
theorem dX12_init_56 : decode cX12_init 56 = .ok (.lastore, 1) := by decide +kernel
theorem dX12_init_57 : decode cX12_init 57 = .ok (.dup, 1) := by decide +kernel
theorem dX12_init_58 : decode cX12_init 58 = .ok (.iconst 2, 1) := by decide +kernel
theorem dX12_init_59 : decode cX12_init 59 = .ok (.ldc2_w 38, 3) := by decide +kernel
theorem dX12_init_62 : decode cX12_init 62 = .ok (.lastore, 1) := by decide +kernel
theorem dX12_init_63 : decode cX12_init 63 = .ok (.dup, 1) := by decide +kernel
theorem dX12_init_64 : decode cX12_init 64 = .ok (.iconst 3, 1) := by decide +kernel
theorem dX12_init_65 : decode cX12_init 65 = .ok (.ldc2_w 40, 3) := by decide +kernel
theorem dX12_init_68 : decode cX12_init 68 = .ok (.lastore, 1) := by decide +kernel
theorem dX12_init_69 : decode cX12_init 69 = .ok (.dup, 1) := by decide +kernel
theorem dX12_init_70 : decode cX12_init 70 = .ok (.iconst 4, 1) := by decide +kernel
theorem dX12_init_71 : decode cX12_init 71 = .ok (.ldc2_w 42, 3) := by decide +kernel
theorem dX12_init_74 : decode cX12_init 74 = .ok (.lastore, 1) := by decide +kernel
theorem dX12_init_75 : decode cX12_init 75 = .ok (.dup, 1) := by decide +kernel
theorem dX12_init_76 : decode cX12_init 76 = .ok (.iconst 5, 1) := by decide +kernel
theorem dX12_init_77 : decode cX12_init 77 = .ok (.ldc2_w 44, 3) := by decide +kernel
theorem dX12_init_80 : decode cX12_init 80 = .ok (.lastore, 1) := by decide +kernel
theorem dX12_init_81 : decode cX12_init 81 = .ok (.dup, 1) := by decide +kernel
theorem dX12_init_82 : decode cX12_init 82 = .ok (.bipush 6, 2) := by decide +kernel
theorem dX12_init_84 : decode cX12_init 84 = .ok (.ldc2_w 46, 3) := by decide +kernel
theorem dX12_init_87 : decode cX12_init 87 = .ok (.lastore, 1) := by decide +kernel
theorem dX12_init_88 : decode cX12_init 88 = .ok (.dup, 1) := by decide +kernel
theorem dX12_init_89 : decode cX12_init 89 = .ok (.bipush 7, 2) := by decide +kernel
theorem dX12_init_91 : decode cX12_init 91 = .ok (.ldc2_w 48, 3) := by decide +kernel
theorem dX12_init_94 : decode cX12_init 94 = .ok (.lastore, 1) := by decide +kernel
theorem dX12_init_95 : decode cX12_init 95 = .ok (.dup, 1) := by decide +kernel
theorem dX12_init_96 : decode cX12_init 96 = .ok (.bipush 8, 2) := by decide +kernel
theorem dX12_init_98 : decode cX12_init 98 = .ok (.ldc2_w 50, 3) := by decide +kernel
theorem dX12_init_101 : decode cX12_init 101 = .ok (.lastore, 1) := by decide +kernel
theorem dX12_init_102 : decode cX12_init 102 = .ok (.dup, 1) := by decide +kernel
theorem dX12_init_103 : decode cX12_init 103 = .ok (.bipush 9, 2) := by decide +kernel
theorem dX12_init_105 : decode cX12_init 105 = .ok (.ldc2_w 52, 3) := by decide +kernel
theorem dX12_init_108 : decode cX12_init 108 = .ok (.lastore, 1) := by decide +kernel
theorem dX12_init_109 : decode cX12_init 109 = .ok (.dup, 1) := by decide +kernel
theorem dX12_init_110 : decode cX12_init 110 = .ok (.bipush 10, 2) := by decide +kernel
theorem dX12_init_112 : decode cX12_init 112 = .ok (.ldc2_w 54, 3) := by decide +kernel
theorem dX12_init_115 : decode cX12_init 115 = .ok (.lastore, 1) := by decide +kernel
theorem dX12_init_116 : decode cX12_init 116 = .ok (.dup, 1) := by decide +kernel
theorem dX12_init_117 : decode cX12_init 117 = .ok (.bipush 11, 2) := by decide +kernel
theorem dX12_init_119 : decode cX12_init 119 = .ok (.ldc2_w 56, 3) := by decide +kernel
theorem dX12_init_122 : decode cX12_init 122 = .ok (.lastore, 1) := by decide +kernel
theorem dX12_init_123 : decode cX12_init 123 = .ok (.dup, 1) := by decide +kernel
theorem dX12_init_124 : decode cX12_init 124 = .ok (.bipush 12, 2) := by decide +kernel
theorem dX12_init_126 : decode cX12_init 126 = .ok (.ldc2_w 58, 3) := by decide +kernel
theorem dX12_init_129 : decode cX12_init 129 = .ok (.lastore, 1) := by decide +kernel
theorem dX12_init_130 : decode cX12_init 130 = .ok (.dup, 1) := by decide +kernel
theorem dX12_init_131 : decode cX12_init 131 = .ok (.bipush 13, 2) := by decide +kernel
theorem dX12_init_133 : decode cX12_init 133 = .ok (.ldc2_w 60, 3) := by decide +kernel
theorem dX12_init_136 : decode cX12_init 136 = .ok (.lastore, 1) := by decide +kernel
theorem dX12_init_137 : decode cX12_init 137 = .ok (.dup, 1) := by decide +kernel
theorem dX12_init_138 : decode cX12_init 138 = .ok (.bipush 14, 2) := by decide +kernel
theorem dX12_init_140 : decode cX12_init 140 = .ok (.ldc2_w 62, 3) := by decide +kernel
theorem dX12_init_143 : decode cX12_init 143 = .ok (.lastore, 1) := by decide +kernel
theorem dX12_init_144 : decode cX12_init 144 = .ok (.dup, 1) := by decide +kernel
theorem dX12_init_145 : decode cX12_init 145 = .ok (.bipush 15, 2) := by decide +kernel
theorem dX12_init_147 : decode cX12_init 147 = .ok (.ldc2_w 64, 3) := by decide +kernel
theorem dX12_init_150 : decode cX12_init 150 = .ok (.lastore, 1) := by decide +kernel
theorem dX12_init_151 : decode cX12_init 151 = .ok (.dup, 1) := by decide +kernel
theorem dX12_init_152 : decode cX12_init 152 = .ok (.bipush 16, 2) := by decide +kernel
theorem dX12_init_154 : decode cX12_init 154 = .ok (.ldc2_w 66, 3) := by decide +kernel
theorem dX12_init_157 : decode cX12_init 157 = .ok (.lastore, 1) := by decide +kernel
theorem dX12_init_158 : decode cX12_init 158 = .ok (.dup, 1) := by decide +kernel
theorem dX12_init_159 : decode cX12_init 159 = .ok (.bipush 17, 2) := by decide +kernel
theorem dX12_init_161 : decode cX12_init 161 = .ok (.ldc2_w 68, 3) := by decide +kernel
theorem dX12_init_164 : decode cX12_init 164 = .ok (.lastore, 1) := by decide +kernel
theorem dX12_init_165 : decode cX12_init 165 = .ok (.dup, 1) := by decide +kernel
theorem dX12_init_166 : decode cX12_init 166 = .ok (.bipush 18, 2) := by decide +kernel
theorem dX12_init_168 : decode cX12_init 168 = .ok (.ldc2_w 70, 3) := by decide +kernel
theorem dX12_init_171 : decode cX12_init 171 = .ok (.lastore, 1) := by decide +kernel
theorem dX12_init_172 : decode cX12_init 172 = .ok (.putfield 72, 3) := by decide +kernel
theorem dX12_init_175 : decode cX12_init 175 = .ok (.aload_n 0, 1) := by decide +kernel
theorem dX12_init_176 : decode cX12_init 176 = .ok (.sipush 280, 3) := by decide +kernel
theorem dX12_init_179 : decode cX12_init 179 = .ok (.newarray .int, 2) := by decide +kernel
theorem dX12_init_181 : decode cX12_init 181 = .ok (.putfield 75, 3) := by decide +kernel
theorem dX12_init_184 : decode cX12_init 184 = .ok (.aload_n 0, 1) := by decide +kernel
theorem dX12_init_185 : decode cX12_init 185 = .ok (.sipush 2200, 3) := by decide +kernel
theorem dX12_init_188 : decode cX12_init 188 = .ok (.newarray .int, 2) := by decide +kernel
theorem dX12_init_190 : decode cX12_init 190 = .ok (.putfield 78, 3) := by decide +kernel
theorem dX12_init_193 : decode cX12_init 193 = .ok (.aload_n 0, 1) := by decide +kernel
theorem dX12_init_194 : decode cX12_init 194 = .ok (.bipush 16, 2) := by decide +kernel
theorem dX12_init_196 : decode cX12_init 196 = .ok (.newarray .long, 2) := by decide +kernel
theorem dX12_init_198 : decode cX12_init 198 = .ok (.putfield 81, 3) := by decide +kernel
theorem dX12_init_201 : decode cX12_init 201 = .ok (.aload_n 0, 1) := by decide +kernel
theorem dX12_init_202 : decode cX12_init 202 = .ok (.sipush 190, 3) := by decide +kernel
theorem dX12_init_205 : decode cX12_init 205 = .ok (.newarray .int, 2) := by decide +kernel
theorem dX12_init_207 : decode cX12_init 207 = .ok (.putfield 84, 3) := by decide +kernel
theorem dX12_init_210 : decode cX12_init 210 = .ok (.aload_n 0, 1) := by decide +kernel
theorem dX12_init_211 : decode cX12_init 211 = .ok (.iconst 4, 1) := by decide +kernel
theorem dX12_init_212 : decode cX12_init 212 = .ok (.newarray .int, 2) := by decide +kernel
theorem dX12_init_214 : decode cX12_init 214 = .ok (.putfield 87, 3) := by decide +kernel
theorem dX12_init_217 : decode cX12_init 217 = .ok (.aload_n 0, 1) := by decide +kernel
theorem dX12_init_218 : decode cX12_init 218 = .ok (.bipush 64, 2) := by decide +kernel
theorem dX12_init_220 : decode cX12_init 220 = .ok (.newarray .int, 2) := by decide +kernel
theorem dX12_init_222 : decode cX12_init 222 = .ok (.putfield 90, 3) := by decide +kernel
theorem dX12_init_225 : decode cX12_init 225 = .ok (.aload_n 0, 1) := by decide +kernel
theorem dX12_init_226 : decode cX12_init 226 = .ok (.sipush 4532, 3) := by decide +kernel
theorem dX12_init_229 : decode cX12_init 229 = .ok (.newarray .int, 2) := by decide +kernel
theorem dX12_init_231 : decode cX12_init 231 = .ok (.putfield 93, 3) := by decide +kernel
theorem dX12_init_234 : decode cX12_init 234 = .ok (.aload_n 0, 1) := by decide +kernel
theorem dX12_init_235 : decode cX12_init 235 = .ok (.iconst 4, 1) := by decide +kernel
theorem dX12_init_236 : decode cX12_init 236 = .ok (.newarray .boolean, 2) := by decide +kernel
theorem dX12_init_238 : decode cX12_init 238 = .ok (.putfield 96, 3) := by decide +kernel
theorem dX12_init_241 : decode cX12_init 241 = .ok (.aload_n 0, 1) := by decide +kernel
theorem dX12_init_242 : decode cX12_init 242 = .ok (.bipush 20, 2) := by decide +kernel
theorem dX12_init_244 : decode cX12_init 244 = .ok (.newarray .int, 2) := by decide +kernel
theorem dX12_init_246 : decode cX12_init 246 = .ok (.putfield 100, 3) := by decide +kernel
theorem dX12_init_249 : decode cX12_init 249 = .ok (.aload_n 0, 1) := by decide +kernel
theorem dX12_init_250 : decode cX12_init 250 = .ok (.sipush 441, 3) := by decide +kernel
theorem dX12_init_253 : decode cX12_init 253 = .ok (.newarray .int, 2) := by decide +kernel
theorem dX12_init_255 : decode cX12_init 255 = .ok (.putfield 103, 3) := by decide +kernel
theorem dX12_init_258 : decode cX12_init 258 = .ok (.aload_n 0, 1) := by decide +kernel
theorem dX12_init_259 : decode cX12_init 259 = .ok (.bipush 20, 2) := by decide +kernel
theorem dX12_init_261 : decode cX12_init 261 = .ok (.newarray .int, 2) := by decide +kernel
theorem dX12_init_263 : decode cX12_init 263 = .ok (.putfield 106, 3) := by decide +kernel
theorem dX12_init_266 : decode cX12_init 266 = .ok (.aload_n 0, 1) := by decide +kernel
theorem dX12_init_267 : decode cX12_init 267 = .ok (.bipush 20, 2) := by decide +kernel
theorem dX12_init_269 : decode cX12_init 269 = .ok (.newarray .int, 2) := by decide +kernel
theorem dX12_init_271 : decode cX12_init 271 = .ok (.putfield 109, 3) := by decide +kernel
theorem dX12_init_274 : decode cX12_init 274 = .ok (.aload_n 0, 1) := by decide +kernel
theorem dX12_init_275 : decode cX12_init 275 = .ok (.bipush 20, 2) := by decide +kernel
theorem dX12_init_277 : decode cX12_init 277 = .ok (.newarray .long, 2) := by decide +kernel
theorem dX12_init_279 : decode cX12_init 279 = .ok (.putfield 112, 3) := by decide +kernel
theorem dX12_init_282 : decode cX12_init 282 = .ok (.aload_n 0, 1) := by decide +kernel
theorem dX12_init_283 : decode cX12_init 283 = .ok (.bipush 20, 2) := by decide +kernel
theorem dX12_init_285 : decode cX12_init 285 = .ok (.newarray .int, 2) := by decide +kernel
theorem dX12_init_287 : decode cX12_init 287 = .ok (.putfield 115, 3) := by decide +kernel
theorem dX12_init_290 : decode cX12_init 290 = .ok (.aload_n 0, 1) := by decide +kernel
theorem dX12_init_291 : decode cX12_init 291 = .ok (.bipush 20, 2) := by decide +kernel
theorem dX12_init_293 : decode cX12_init 293 = .ok (.newarray .int, 2) := by decide +kernel
theorem dX12_init_295 : decode cX12_init 295 = .ok (.putfield 118, 3) := by decide +kernel
theorem dX12_init_298 : decode cX12_init 298 = .ok (.aload_n 0, 1) := by decide +kernel
theorem dX12_init_299 : decode cX12_init 299 = .ok (.sipush 420, 3) := by decide +kernel
theorem dX12_init_302 : decode cX12_init 302 = .ok (.newarray .int, 2) := by decide +kernel
theorem dX12_init_304 : decode cX12_init 304 = .ok (.putfield 121, 3) := by decide +kernel
theorem dX12_init_307 : decode cX12_init 307 = .ok (.aload_n 0, 1) := by decide +kernel
theorem dX12_init_308 : decode cX12_init 308 = .ok (.bipush 21, 2) := by decide +kernel
theorem dX12_init_310 : decode cX12_init 310 = .ok (.newarray .int, 2) := by decide +kernel
theorem dX12_init_312 : decode cX12_init 312 = .ok (.putfield 124, 3) := by decide +kernel
theorem dX12_init_315 : decode cX12_init 315 = .ok (.aload_n 0, 1) := by decide +kernel
theorem dX12_init_316 : decode cX12_init 316 = .ok (.bipush 20, 2) := by decide +kernel
theorem dX12_init_318 : decode cX12_init 318 = .ok (.newarray .int, 2) := by decide +kernel
theorem dX12_init_320 : decode cX12_init 320 = .ok (.putfield 127, 3) := by decide +kernel
theorem dX12_init_323 : decode cX12_init 323 = .ok (.aload_n 0, 1) := by decide +kernel
theorem dX12_init_324 : decode cX12_init 324 = .ok (.bipush 21, 2) := by decide +kernel
theorem dX12_init_326 : decode cX12_init 326 = .ok (.newarray .int, 2) := by decide +kernel
theorem dX12_init_328 : decode cX12_init 328 = .ok (.putfield 130, 3) := by decide +kernel
theorem dX12_init_331 : decode cX12_init 331 = .ok (.aload_n 0, 1) := by decide +kernel
theorem dX12_init_332 : decode cX12_init 332 = .ok (.bipush 10, 2) := by decide +kernel
theorem dX12_init_334 : decode cX12_init 334 = .ok (.newarray .int, 2) := by decide +kernel
theorem dX12_init_336 : decode cX12_init 336 = .ok (.putfield 133, 3) := by decide +kernel
theorem dX12_init_339 : decode cX12_init 339 = .ok (.aload_n 0, 1) := by decide +kernel
theorem dX12_init_340 : decode cX12_init 340 = .ok (.bipush 10, 2) := by decide +kernel
theorem dX12_init_342 : decode cX12_init 342 = .ok (.newarray .int, 2) := by decide +kernel
theorem dX12_init_344 : decode cX12_init 344 = .ok (.putfield 136, 3) := by decide +kernel
theorem dX12_init_347 : decode cX12_init 347 = .ok (.aload_n 0, 1) := by decide +kernel
theorem dX12_init_348 : decode cX12_init 348 = .ok (.bipush 10, 2) := by decide +kernel
theorem dX12_init_350 : decode cX12_init 350 = .ok (.newarray .int, 2) := by decide +kernel
theorem dX12_init_352 : decode cX12_init 352 = .ok (.putfield 139, 3) := by decide +kernel
theorem dX12_init_355 : decode cX12_init 355 = .ok (.aload_n 0, 1) := by decide +kernel
theorem dX12_init_356 : decode cX12_init 356 = .ok (.bipush 121, 2) := by decide +kernel
theorem dX12_init_358 : decode cX12_init 358 = .ok (.newarray .int, 2) := by decide +kernel
theorem dX12_init_360 : decode cX12_init 360 = .ok (.putfield 142, 3) := by decide +kernel
theorem dX12_init_363 : decode cX12_init 363 = .ok (.aload_n 0, 1) := by decide +kernel
theorem dX12_init_364 : decode cX12_init 364 = .ok (.bipush 121, 2) := by decide +kernel
theorem dX12_init_366 : decode cX12_init 366 = .ok (.newarray .int, 2) := by decide +kernel
theorem dX12_init_368 : decode cX12_init 368 = .ok (.putfield 145, 3) := by decide +kernel
theorem dX12_init_371 : decode cX12_init 371 = .ok (.aload_n 0, 1) := by decide +kernel
theorem dX12_init_372 : decode cX12_init 372 = .ok (.bipush 121, 2) := by decide +kernel
theorem dX12_init_374 : decode cX12_init 374 = .ok (.newarray .int, 2) := by decide +kernel
theorem dX12_init_376 : decode cX12_init 376 = .ok (.putfield 148, 3) := by decide +kernel
theorem dX12_init_379 : decode cX12_init 379 = .ok (.aload_n 0, 1) := by decide +kernel
theorem dX12_init_380 : decode cX12_init 380 = .ok (.bipush 21, 2) := by decide +kernel
theorem dX12_init_382 : decode cX12_init 382 = .ok (.newarray .int, 2) := by decide +kernel
theorem dX12_init_384 : decode cX12_init 384 = .ok (.putfield 151, 3) := by decide +kernel
theorem dX12_init_387 : decode cX12_init 387 = .ok (.aload_n 0, 1) := by decide +kernel
theorem dX12_init_388 : decode cX12_init 388 = .ok (.iconst 0, 1) := by decide +kernel
theorem dX12_init_389 : decode cX12_init 389 = .ok (.invokevirtual 154, 3) := by decide +kernel
theorem dX12_init_392 : decode cX12_init 392 = .ok (.aload_n 0, 1) := by decide +kernel
theorem dX12_init_393 : decode cX12_init 393 = .ok (.invokevirtual 158, 3) := by decide +kernel
theorem dX12_init_396 : decode cX12_init 396 = .ok (.return_, 1) := by decide +kernel
theorem dX12_isLetter_0 : decode cX12_isLetter 0 = .ok (.iload_n 0, 1) := by decide +kernel
theorem dX12_isLetter_1 : decode cX12_isLetter 1 = .ok (.bipush 97, 2) := by decide +kernel
theorem dX12_isLetter_3 : decode cX12_isLetter 3 = .ok (.if_icmp .lt 13, 3) := by decide +kernel
theorem dX12_isLetter_6 : decode cX12_isLetter 6 = .ok (.iload_n 0, 1) := by decide +kernel
theorem dX12_isLetter_7 : decode cX12_isLetter 7 = .ok (.bipush 122, 2) := by decide +kernel
theorem dX12_isLetter_9 : decode cX12_isLetter 9 = .ok (.if_icmp .gt 7, 3) := by decide +kernel
theorem dX12_isLetter_12 : decode cX12_isLetter 12 = .ok (.iconst 1, 1) := by decide +kernel
theorem dX12_isLetter_13 : decode cX12_isLetter 13 = .ok (.goto 4, 3) := by decide +kernel
theorem dX12_isLetter_16 : decode cX12_isLetter 16 = .ok (.iconst 0, 1) := by decide +kernel
theorem dX12_isLetter_17 : decode cX12_isLetter 17 = .ok (.ireturn, 1) := by decide +kernel
theorem dX12_isDigit_0 : decode cX12_isDigit 0 = .ok (.iload_n 0, 1) := by decide +kernel
theorem dX12_isDigit_1 : decode cX12_isDigit 1 = .ok (.bipush 48, 2) := by decide +kernel
theorem dX12_isDigit_3 : decode cX12_isDigit 3 = .ok (.if_icmp .lt 13, 3) := by decide +kernel
theorem dX12_isDigit_6 : decode cX12_isDigit 6 = .ok (.iload_n 0, 1) := by decide +kernel
theorem dX12_isDigit_7 : decode cX12_isDigit 7 = .ok (.bipush 57, 2) := by decide +kernel
theorem dX12_isDigit_9 : decode cX12_isDigit 9 = .ok (.if_icmp .gt 7, 3) := by decide +kernel
theorem dX12_isDigit_12 : decode cX12_isDigit 12 = .ok (.iconst 1, 1) := by decide +kernel
theorem dX12_isDigit_13 : decode cX12_isDigit 13 = .ok (.goto 4, 3) := by decide +kernel
theorem dX12_isDigit_16 : decode cX12_isDigit 16 = .ok (.iconst 0, 1) := by decide +kernel
theorem dX12_isDigit_17 : decode cX12_isDigit 17 = .ok (.ireturn, 1) := by decide +kernel
theorem dX12_rank_0 : decode cX12_rank 0 = .ok (.iload_n 0, 1) := by decide +kernel
theorem dX12_rank_1 : decode cX12_rank 1 = .ok (.invokestatic 161, 3) := by decide +kernel
theorem dX12_rank_4 : decode cX12_rank 4 = .ok (.ifCond .eq 10, 3) := by decide +kernel
theorem dX12_rank_7 : decode cX12_rank 7 = .ok (.iload_n 0, 1) := by decide +kernel
theorem dX12_rank_8 : decode cX12_rank 8 = .ok (.bipush 96, 2) := by decide +kernel
theorem dX12_rank_10 : decode cX12_rank 10 = .ok (.isub, 1) := by decide +kernel
theorem dX12_rank_11 : decode cX12_rank 11 = .ok (.goto 7, 3) := by decide +kernel
theorem dX12_rank_14 : decode cX12_rank 14 = .ok (.iload_n 0, 1) := by decide +kernel
theorem dX12_rank_15 : decode cX12_rank 15 = .ok (.bipush 21, 2) := by decide +kernel
theorem dX12_rank_17 : decode cX12_rank 17 = .ok (.isub, 1) := by decide +kernel
theorem dX12_rank_18 : decode cX12_rank 18 = .ok (.ireturn, 1) := by decide +kernel
theorem dX12_isSignOf_0 : decode cX12_isSignOf 0 = .ok (.iload_n 0, 1) := by decide +kernel
theorem dX12_isSignOf_1 : decode cX12_isSignOf 1 = .ok (.bipush 40, 2) := by decide +kernel
theorem dX12_isSignOf_3 : decode cX12_isSignOf 3 = .ok (.if_icmp .eq 45, 3) := by decide +kernel
theorem dX12_isSignOf_6 : decode cX12_isSignOf 6 = .ok (.iload_n 0, 1) := by decide +kernel
theorem dX12_isSignOf_7 : decode cX12_isSignOf 7 = .ok (.bipush 41, 2) := by decide +kernel
theorem dX12_isSignOf_9 : decode cX12_isSignOf 9 = .ok (.if_icmp .eq 39, 3) := by decide +kernel
theorem dX12_isSignOf_12 : decode cX12_isSignOf 12 = .ok (.iload_n 0, 1) := by decide +kernel
theorem dX12_isSignOf_13 : decode cX12_isSignOf 13 = .ok (.bipush 59, 2) := by decide +kernel
theorem dX12_isSignOf_15 : decode cX12_isSignOf 15 = .ok (.if_icmp .eq 33, 3) := by decide +kernel
theorem dX12_isSignOf_18 : decode cX12_isSignOf 18 = .ok (.iload_n 0, 1) := by decide +kernel
theorem dX12_isSignOf_19 : decode cX12_isSignOf 19 = .ok (.bipush 61, 2) := by decide +kernel
theorem dX12_isSignOf_21 : decode cX12_isSignOf 21 = .ok (.if_icmp .eq 27, 3) := by decide +kernel
theorem dX12_isSignOf_24 : decode cX12_isSignOf 24 = .ok (.iload_n 0, 1) := by decide +kernel
theorem dX12_isSignOf_25 : decode cX12_isSignOf 25 = .ok (.bipush 60, 2) := by decide +kernel
theorem dX12_isSignOf_27 : decode cX12_isSignOf 27 = .ok (.if_icmp .eq 21, 3) := by decide +kernel
theorem dX12_isSignOf_30 : decode cX12_isSignOf 30 = .ok (.iload_n 0, 1) := by decide +kernel
theorem dX12_isSignOf_31 : decode cX12_isSignOf 31 = .ok (.bipush 43, 2) := by decide +kernel
theorem dX12_isSignOf_33 : decode cX12_isSignOf 33 = .ok (.if_icmp .eq 15, 3) := by decide +kernel
theorem dX12_isSignOf_36 : decode cX12_isSignOf 36 = .ok (.iload_n 0, 1) := by decide +kernel
theorem dX12_isSignOf_37 : decode cX12_isSignOf 37 = .ok (.bipush 45, 2) := by decide +kernel
theorem dX12_isSignOf_39 : decode cX12_isSignOf 39 = .ok (.if_icmp .eq 9, 3) := by decide +kernel
theorem dX12_isSignOf_42 : decode cX12_isSignOf 42 = .ok (.iload_n 0, 1) := by decide +kernel
theorem dX12_isSignOf_43 : decode cX12_isSignOf 43 = .ok (.bipush 42, 2) := by decide +kernel
theorem dX12_isSignOf_45 : decode cX12_isSignOf 45 = .ok (.if_icmp .ne 7, 3) := by decide +kernel
theorem dX12_isSignOf_48 : decode cX12_isSignOf 48 = .ok (.iconst 1, 1) := by decide +kernel
theorem dX12_isSignOf_49 : decode cX12_isSignOf 49 = .ok (.goto 4, 3) := by decide +kernel
theorem dX12_isSignOf_52 : decode cX12_isSignOf 52 = .ok (.iconst 0, 1) := by decide +kernel
theorem dX12_isSignOf_53 : decode cX12_isSignOf 53 = .ok (.ireturn, 1) := by decide +kernel
theorem dX12_cutAll_0 : decode cX12_cutAll 0 = .ok (.aload_n 0, 1) := by decide +kernel
theorem dX12_cutAll_1 : decode cX12_cutAll 1 = .ok (.aload_n 0, 1) := by decide +kernel
theorem dX12_cutAll_2 : decode cX12_cutAll 2 = .ok (.getfield 11, 3) := by decide +kernel
theorem dX12_cutAll_5 : decode cX12_cutAll 5 = .ok (.putfield 165, 3) := by decide +kernel
theorem dX12_cutAll_8 : decode cX12_cutAll 8 = .ok (.aload_n 0, 1) := by decide +kernel
theorem dX12_cutAll_9 : decode cX12_cutAll 9 = .ok (.iconst 0, 1) := by decide +kernel
theorem dX12_cutAll_10 : decode cX12_cutAll 10 = .ok (.putfield 11, 3) := by decide +kernel
theorem dX12_cutAll_13 : decode cX12_cutAll 13 = .ok (.iconst 0, 1) := by decide +kernel
theorem dX12_cutAll_14 : decode cX12_cutAll 14 = .ok (.istore_n 1, 1) := by decide +kernel
theorem dX12_cutAll_15 : decode cX12_cutAll 15 = .ok (.iconst 0, 1) := by decide +kernel
theorem dX12_cutAll_16 : decode cX12_cutAll 16 = .ok (.istore_n 2, 1) := by decide +kernel
theorem dX12_cutAll_17 : decode cX12_cutAll 17 = .ok (.iload_n 2, 1) := by decide +kernel
theorem dX12_cutAll_18 : decode cX12_cutAll 18 = .ok (.aload_n 0, 1) := by decide +kernel
theorem dX12_cutAll_19 : decode cX12_cutAll 19 = .ok (.getfield 165, 3) := by decide +kernel
theorem dX12_cutAll_22 : decode cX12_cutAll 22 = .ok (.if_icmp .ge 257, 3) := by decide +kernel
theorem dX12_cutAll_25 : decode cX12_cutAll 25 = .ok (.aload_n 0, 1) := by decide +kernel
theorem dX12_cutAll_26 : decode cX12_cutAll 26 = .ok (.getfield 14, 3) := by decide +kernel
theorem dX12_cutAll_29 : decode cX12_cutAll 29 = .ok (.iload_n 2, 1) := by decide +kernel
theorem dX12_cutAll_30 : decode cX12_cutAll 30 = .ok (.iaload, 1) := by decide +kernel
theorem dX12_cutAll_31 : decode cX12_cutAll 31 = .ok (.istore_n 3, 1) := by decide +kernel
theorem dX12_cutAll_32 : decode cX12_cutAll 32 = .ok (.iload_n 3, 1) := by decide +kernel
theorem dX12_cutAll_33 : decode cX12_cutAll 33 = .ok (.bipush 10, 2) := by decide +kernel
theorem dX12_cutAll_35 : decode cX12_cutAll 35 = .ok (.if_icmp .eq 9, 3) := by decide +kernel
theorem dX12_cutAll_38 : decode cX12_cutAll 38 = .ok (.iload_n 3, 1) := by decide +kernel
theorem dX12_cutAll_39 : decode cX12_cutAll 39 = .ok (.bipush 32, 2) := by decide +kernel
theorem dX12_cutAll_41 : decode cX12_cutAll 41 = .ok (.if_icmp .ne 9, 3) := by decide +kernel
theorem dX12_cutAll_44 : decode cX12_cutAll 44 = .ok (.iinc 2 1, 3) := by decide +kernel
theorem dX12_cutAll_47 : decode cX12_cutAll 47 = .ok (.goto (-30), 3) := by decide +kernel
theorem dX12_cutAll_50 : decode cX12_cutAll 50 = .ok (.iload_n 2, 1) := by decide +kernel
theorem dX12_cutAll_51 : decode cX12_cutAll 51 = .ok (.istore 4, 2) := by decide +kernel
theorem dX12_cutAll_53 : decode cX12_cutAll 53 = .ok (.lconst 0, 1) := by decide +kernel
theorem dX12_cutAll_54 : decode cX12_cutAll 54 = .ok (.lstore 5, 2) := by decide +kernel
theorem dX12_cutAll_56 : decode cX12_cutAll 56 = .ok (.aload_n 0, 1) := by decide +kernel
theorem dX12_cutAll_57 : decode cX12_cutAll 57 = .ok (.getfield 27, 3) := by decide +kernel
theorem dX12_cutAll_60 : decode cX12_cutAll 60 = .ok (.iload_n 1, 1) := by decide +kernel
theorem dX12_cutAll_61 : decode cX12_cutAll 61 = .ok (.iload_n 2, 1) := by decide +kernel
theorem dX12_cutAll_62 : decode cX12_cutAll 62 = .ok (.iastore, 1) := by decide +kernel
theorem dX12_cutAll_63 : decode cX12_cutAll 63 = .ok (.iload_n 3, 1) := by decide +kernel
theorem dX12_cutAll_64 : decode cX12_cutAll 64 = .ok (.invokestatic 161, 3) := by decide +kernel
theorem dX12_cutAll_67 : decode cX12_cutAll 67 = .ok (.ifCond .eq 85, 3) := by decide +kernel
theorem dX12_cutAll_70 : decode cX12_cutAll 70 = .ok (.iload_n 2, 1) := by decide +kernel
theorem dX12_cutAll_71 : decode cX12_cutAll 71 = .ok (.aload_n 0, 1) := by decide +kernel
theorem dX12_cutAll_72 : decode cX12_cutAll 72 = .ok (.getfield 165, 3) := by decide +kernel
theorem dX12_cutAll_75 : decode cX12_cutAll 75 = .ok (.if_icmp .ge 54, 3) := by decide +kernel
theorem dX12_cutAll_78 : decode cX12_cutAll 78 = .ok (.aload_n 0, 1) := by decide +kernel
theorem dX12_cutAll_79 : decode cX12_cutAll 79 = .ok (.getfield 14, 3) := by decide +kernel
theorem dX12_cutAll_82 : decode cX12_cutAll 82 = .ok (.iload_n 2, 1) := by decide +kernel
theorem dX12_cutAll_83 : decode cX12_cutAll 83 = .ok (.iaload, 1) := by decide +kernel
theorem dX12_cutAll_84 : decode cX12_cutAll 84 = .ok (.invokestatic 161, 3) := by decide +kernel
theorem dX12_cutAll_87 : decode cX12_cutAll 87 = .ok (.ifCond .eq 42, 3) := by decide +kernel
theorem dX12_cutAll_90 : decode cX12_cutAll 90 = .ok (.iload_n 2, 1) := by decide +kernel
theorem dX12_cutAll_91 : decode cX12_cutAll 91 = .ok (.iload 4, 2) := by decide +kernel
theorem dX12_cutAll_93 : decode cX12_cutAll 93 = .ok (.isub, 1) := by decide +kernel
theorem dX12_cutAll_94 : decode cX12_cutAll 94 = .ok (.bipush 8, 2) := by decide +kernel
theorem dX12_cutAll_96 : decode cX12_cutAll 96 = .ok (.if_icmp .ge 23, 3) := by decide +kernel
theorem dX12_cutAll_99 : decode cX12_cutAll 99 = .ok (.ldc2_w 168, 3) := by decide +kernel
theorem dX12_cutAll_102 : decode cX12_cutAll 102 = .ok (.lload 5, 2) := by decide +kernel
theorem dX12_cutAll_104 : decode cX12_cutAll 104 = .ok (.lmul, 1) := by decide +kernel
theorem dX12_cutAll_105 : decode cX12_cutAll 105 = .ok (.aload_n 0, 1) := by decide +kernel
theorem dX12_cutAll_106 : decode cX12_cutAll 106 = .ok (.getfield 14, 3) := by decide +kernel
theorem dX12_cutAll_109 : decode cX12_cutAll 109 = .ok (.iload_n 2, 1) := by decide +kernel
theorem dX12_cutAll_110 : decode cX12_cutAll 110 = .ok (.iaload, 1) := by decide +kernel
theorem dX12_cutAll_111 : decode cX12_cutAll 111 = .ok (.invokestatic 170, 3) := by decide +kernel
theorem dX12_cutAll_114 : decode cX12_cutAll 114 = .ok (.i2l, 1) := by decide +kernel
theorem dX12_cutAll_115 : decode cX12_cutAll 115 = .ok (.ladd, 1) := by decide +kernel
theorem dX12_cutAll_116 : decode cX12_cutAll 116 = .ok (.goto 5, 3) := by decide +kernel
theorem dX12_cutAll_119 : decode cX12_cutAll 119 = .ok (.lload 5, 2) := by decide +kernel
theorem dX12_cutAll_121 : decode cX12_cutAll 121 = .ok (.lstore 5, 2) := by decide +kernel
theorem dX12_cutAll_123 : decode cX12_cutAll 123 = .ok (.iinc 2 1, 3) := by decide +kernel
theorem dX12_cutAll_126 : decode cX12_cutAll 126 = .ok (.goto (-56), 3) := by decide +kernel
theorem dX12_cutAll_129 : decode cX12_cutAll 129 = .ok (.aload_n 0, 1) := by decide +kernel
theorem dX12_cutAll_130 : decode cX12_cutAll 130 = .ok (.getfield 24, 3) := by decide +kernel
theorem dX12_cutAll_133 : decode cX12_cutAll 133 = .ok (.iload_n 1, 1) := by decide +kernel
theorem dX12_cutAll_134 : decode cX12_cutAll 134 = .ok (.iload_n 2, 1) := by decide +kernel
theorem dX12_cutAll_135 : decode cX12_cutAll 135 = .ok (.iload 4, 2) := by decide +kernel
theorem dX12_cutAll_137 : decode cX12_cutAll 137 = .ok (.isub, 1) := by decide +kernel
theorem dX12_cutAll_138 : decode cX12_cutAll 138 = .ok (.bipush 8, 2) := by decide +kernel
theorem dX12_cutAll_140 : decode cX12_cutAll 140 = .ok (.if_icmp .le 7, 3) := by decide +kernel
theorem dX12_cutAll_143 : decode cX12_cutAll 143 = .ok (.iconst 4, 1) := by decide +kernel
theorem dX12_cutAll_144 : decode cX12_cutAll 144 = .ok (.goto 4, 3) := by decide +kernel
theorem dX12_cutAll_147 : decode cX12_cutAll 147 = .ok (.iconst 1, 1) := by decide +kernel
theorem dX12_cutAll_148 : decode cX12_cutAll 148 = .ok (.iastore, 1) := by decide +kernel
theorem dX12_cutAll_149 : decode cX12_cutAll 149 = .ok (.goto 116, 3) := by decide +kernel
theorem dX12_cutAll_152 : decode cX12_cutAll 152 = .ok (.iload_n 3, 1) := by decide +kernel
theorem dX12_cutAll_153 : decode cX12_cutAll 153 = .ok (.invokestatic 174, 3) := by decide +kernel
theorem dX12_cutAll_156 : decode cX12_cutAll 156 = .ok (.ifCond .eq 84, 3) := by decide +kernel
theorem dX12_cutAll_159 : decode cX12_cutAll 159 = .ok (.iload_n 2, 1) := by decide +kernel
theorem dX12_cutAll_160 : decode cX12_cutAll 160 = .ok (.aload_n 0, 1) := by decide +kernel
theorem dX12_cutAll_161 : decode cX12_cutAll 161 = .ok (.getfield 165, 3) := by decide +kernel
theorem dX12_cutAll_164 : decode cX12_cutAll 164 = .ok (.if_icmp .ge 54, 3) := by decide +kernel
theorem dX12_cutAll_167 : decode cX12_cutAll 167 = .ok (.aload_n 0, 1) := by decide +kernel
theorem dX12_cutAll_168 : decode cX12_cutAll 168 = .ok (.getfield 14, 3) := by decide +kernel
theorem dX12_cutAll_171 : decode cX12_cutAll 171 = .ok (.iload_n 2, 1) := by decide +kernel
theorem dX12_cutAll_172 : decode cX12_cutAll 172 = .ok (.iaload, 1) := by decide +kernel
theorem dX12_cutAll_173 : decode cX12_cutAll 173 = .ok (.invokestatic 174, 3) := by decide +kernel
theorem dX12_cutAll_176 : decode cX12_cutAll 176 = .ok (.ifCond .eq 42, 3) := by decide +kernel
theorem dX12_cutAll_179 : decode cX12_cutAll 179 = .ok (.iload_n 2, 1) := by decide +kernel
theorem dX12_cutAll_180 : decode cX12_cutAll 180 = .ok (.iload 4, 2) := by decide +kernel
theorem dX12_cutAll_182 : decode cX12_cutAll 182 = .ok (.isub, 1) := by decide +kernel
theorem dX12_cutAll_183 : decode cX12_cutAll 183 = .ok (.iconst 4, 1) := by decide +kernel
theorem dX12_cutAll_184 : decode cX12_cutAll 184 = .ok (.if_icmp .ge 24, 3) := by decide +kernel
theorem dX12_cutAll_187 : decode cX12_cutAll 187 = .ok (.ldc2_w 177, 3) := by decide +kernel
theorem dX12_cutAll_190 : decode cX12_cutAll 190 = .ok (.lload 5, 2) := by decide +kernel
theorem dX12_cutAll_192 : decode cX12_cutAll 192 = .ok (.lmul, 1) := by decide +kernel
theorem dX12_cutAll_193 : decode cX12_cutAll 193 = .ok (.aload_n 0, 1) := by decide +kernel
theorem dX12_cutAll_194 : decode cX12_cutAll 194 = .ok (.getfield 14, 3) := by decide +kernel
theorem dX12_cutAll_197 : decode cX12_cutAll 197 = .ok (.iload_n 2, 1) := by decide +kernel
theorem dX12_cutAll_198 : decode cX12_cutAll 198 = .ok (.iaload, 1) := by decide +kernel
theorem dX12_cutAll_199 : decode cX12_cutAll 199 = .ok (.i2l, 1) := by decide +kernel
theorem dX12_cutAll_200 : decode cX12_cutAll 200 = .ok (.ladd, 1) := by decide +kernel
theorem dX12_cutAll_201 : decode cX12_cutAll 201 = .ok (.ldc2_w 179, 3) := by decide +kernel
theorem dX12_cutAll_204 : decode cX12_cutAll 204 = .ok (.lsub, 1) := by decide +kernel
theorem dX12_cutAll_205 : decode cX12_cutAll 205 = .ok (.goto 5, 3) := by decide +kernel
theorem dX12_cutAll_208 : decode cX12_cutAll 208 = .ok (.lload 5, 2) := by decide +kernel
theorem dX12_cutAll_210 : decode cX12_cutAll 210 = .ok (.lstore 5, 2) := by decide +kernel
theorem dX12_cutAll_212 : decode cX12_cutAll 212 = .ok (.iinc 2 1, 3) := by decide +kernel
theorem dX12_cutAll_215 : decode cX12_cutAll 215 = .ok (.goto (-56), 3) := by decide +kernel
theorem dX12_cutAll_218 : decode cX12_cutAll 218 = .ok (.aload_n 0, 1) := by decide +kernel
theorem dX12_cutAll_219 : decode cX12_cutAll 219 = .ok (.getfield 24, 3) := by decide +kernel
theorem dX12_cutAll_222 : decode cX12_cutAll 222 = .ok (.iload_n 1, 1) := by decide +kernel
theorem dX12_cutAll_223 : decode cX12_cutAll 223 = .ok (.iload_n 2, 1) := by decide +kernel
theorem dX12_cutAll_224 : decode cX12_cutAll 224 = .ok (.iload 4, 2) := by decide +kernel
theorem dX12_cutAll_226 : decode cX12_cutAll 226 = .ok (.isub, 1) := by decide +kernel
theorem dX12_cutAll_227 : decode cX12_cutAll 227 = .ok (.iconst 4, 1) := by decide +kernel
theorem dX12_cutAll_228 : decode cX12_cutAll 228 = .ok (.if_icmp .le 7, 3) := by decide +kernel
theorem dX12_cutAll_231 : decode cX12_cutAll 231 = .ok (.iconst 4, 1) := by decide +kernel
theorem dX12_cutAll_232 : decode cX12_cutAll 232 = .ok (.goto 4, 3) := by decide +kernel
theorem dX12_cutAll_235 : decode cX12_cutAll 235 = .ok (.iconst 2, 1) := by decide +kernel
theorem dX12_cutAll_236 : decode cX12_cutAll 236 = .ok (.iastore, 1) := by decide +kernel
theorem dX12_cutAll_237 : decode cX12_cutAll 237 = .ok (.goto 28, 3) := by decide +kernel
theorem dX12_cutAll_240 : decode cX12_cutAll 240 = .ok (.iload_n 3, 1) := by decide +kernel
theorem dX12_cutAll_241 : decode cX12_cutAll 241 = .ok (.i2l, 1) := by decide +kernel
theorem dX12_cutAll_242 : decode cX12_cutAll 242 = .ok (.lstore 5, 2) := by decide +kernel
theorem dX12_cutAll_244 : decode cX12_cutAll 244 = .ok (.aload_n 0, 1) := by decide +kernel
theorem dX12_cutAll_245 : decode cX12_cutAll 245 = .ok (.getfield 24, 3) := by decide +kernel
theorem dX12_cutAll_248 : decode cX12_cutAll 248 = .ok (.iload_n 1, 1) := by decide +kernel
theorem dX12_cutAll_249 : decode cX12_cutAll 249 = .ok (.iload_n 3, 1) := by decide +kernel
theorem dX12_cutAll_250 : decode cX12_cutAll 250 = .ok (.invokestatic 181, 3) := by decide +kernel
theorem dX12_cutAll_253 : decode cX12_cutAll 253 = .ok (.ifCond .eq 7, 3) := by decide +kernel
theorem dX12_cutAll_256 : decode cX12_cutAll 256 = .ok (.iconst 3, 1) := by decide +kernel
theorem dX12_cutAll_257 : decode cX12_cutAll 257 = .ok (.goto 4, 3) := by decide +kernel
theorem dX12_cutAll_260 : decode cX12_cutAll 260 = .ok (.iconst 4, 1) := by decide +kernel
theorem dX12_cutAll_261 : decode cX12_cutAll 261 = .ok (.iastore, 1) := by decide +kernel
theorem dX12_cutAll_262 : decode cX12_cutAll 262 = .ok (.iinc 2 1, 3) := by decide +kernel
theorem dX12_cutAll_265 : decode cX12_cutAll 265 = .ok (.aload_n 0, 1) := by decide +kernel
theorem dX12_cutAll_266 : decode cX12_cutAll 266 = .ok (.getfield 30, 3) := by decide +kernel
theorem dX12_cutAll_269 : decode cX12_cutAll 269 = .ok (.iload_n 1, 1) := by decide +kernel
theorem dX12_cutAll_270 : decode cX12_cutAll 270 = .ok (.lload 5, 2) := by decide +kernel
theorem dX12_cutAll_272 : decode cX12_cutAll 272 = .ok (.lastore, 1) := by decide +kernel
theorem dX12_cutAll_273 : decode cX12_cutAll 273 = .ok (.iinc 1 1, 3) := by decide +kernel
theorem dX12_cutAll_276 : decode cX12_cutAll 276 = .ok (.goto (-259), 3) := by decide +kernel
theorem dX12_cutAll_279 : decode cX12_cutAll 279 = .ok (.aload_n 0, 1) := by decide +kernel
theorem dX12_cutAll_280 : decode cX12_cutAll 280 = .ok (.getfield 24, 3) := by decide +kernel
theorem dX12_cutAll_283 : decode cX12_cutAll 283 = .ok (.iload_n 1, 1) := by decide +kernel
theorem dX12_cutAll_284 : decode cX12_cutAll 284 = .ok (.iconst 0, 1) := by decide +kernel
theorem dX12_cutAll_285 : decode cX12_cutAll 285 = .ok (.iastore, 1) := by decide +kernel
theorem dX12_cutAll_286 : decode cX12_cutAll 286 = .ok (.aload_n 0, 1) := by decide +kernel
theorem dX12_cutAll_287 : decode cX12_cutAll 287 = .ok (.getfield 27, 3) := by decide +kernel
theorem dX12_cutAll_290 : decode cX12_cutAll 290 = .ok (.iload_n 1, 1) := by decide +kernel
theorem dX12_cutAll_291 : decode cX12_cutAll 291 = .ok (.aload_n 0, 1) := by decide +kernel
theorem dX12_cutAll_292 : decode cX12_cutAll 292 = .ok (.getfield 165, 3) := by decide +kernel
theorem dX12_cutAll_295 : decode cX12_cutAll 295 = .ok (.iastore, 1) := by decide +kernel
theorem dX12_cutAll_296 : decode cX12_cutAll 296 = .ok (.aload_n 0, 1) := by decide +kernel
theorem dX12_cutAll_297 : decode cX12_cutAll 297 = .ok (.iconst 0, 1) := by decide +kernel
theorem dX12_cutAll_298 : decode cX12_cutAll 298 = .ok (.putfield 184, 3) := by decide +kernel
theorem dX12_cutAll_301 : decode cX12_cutAll 301 = .ok (.aload_n 0, 1) := by decide +kernel
theorem dX12_cutAll_302 : decode cX12_cutAll 302 = .ok (.iconst 0, 1) := by decide +kernel
theorem dX12_cutAll_303 : decode cX12_cutAll 303 = .ok (.putfield 187, 3) := by decide +kernel
theorem dX12_cutAll_306 : decode cX12_cutAll 306 = .ok (.return_, 1) := by decide +kernel
theorem dX12_wrong_0 : decode cX12_wrong 0 = .ok (.aload_n 0, 1) := by decide +kernel
theorem dX12_wrong_1 : decode cX12_wrong 1 = .ok (.getfield 187, 3) := by decide +kernel
theorem dX12_wrong_4 : decode cX12_wrong 4 = .ok (.ifCond .ne 21, 3) := by decide +kernel
theorem dX12_wrong_7 : decode cX12_wrong 7 = .ok (.aload_n 0, 1) := by decide +kernel
theorem dX12_wrong_8 : decode cX12_wrong 8 = .ok (.iload_n 1, 1) := by decide +kernel
theorem dX12_wrong_9 : decode cX12_wrong 9 = .ok (.bipush 16, 2) := by decide +kernel
theorem dX12_wrong_11 : decode cX12_wrong 11 = .ok (.aload_n 0, 1) := by decide +kernel
theorem dX12_wrong_12 : decode cX12_wrong 12 = .ok (.getfield 27, 3) := by decide +kernel
theorem dX12_wrong_15 : decode cX12_wrong 15 = .ok (.aload_n 0, 1) := by decide +kernel
theorem dX12_wrong_16 : decode cX12_wrong 16 = .ok (.getfield 184, 3) := by decide +kernel
theorem dX12_wrong_19 : decode cX12_wrong 19 = .ok (.iaload, 1) := by decide +kernel
theorem dX12_wrong_20 : decode cX12_wrong 20 = .ok (.imul, 1) := by decide +kernel
theorem dX12_wrong_21 : decode cX12_wrong 21 = .ok (.iadd, 1) := by decide +kernel
theorem dX12_wrong_22 : decode cX12_wrong 22 = .ok (.putfield 187, 3) := by decide +kernel
theorem dX12_wrong_25 : decode cX12_wrong 25 = .ok (.return_, 1) := by decide +kernel
theorem dX12_isSign_0 : decode cX12_isSign 0 = .ok (.aload_n 0, 1) := by decide +kernel
theorem dX12_isSign_1 : decode cX12_isSign 1 = .ok (.getfield 187, 3) := by decide +kernel
theorem dX12_isSign_4 : decode cX12_isSign 4 = .ok (.ifCond .ne 35, 3) := by decide +kernel
theorem dX12_isSign_7 : decode cX12_isSign 7 = .ok (.aload_n 0, 1) := by decide +kernel
theorem dX12_isSign_8 : decode cX12_isSign 8 = .ok (.getfield 24, 3) := by decide +kernel
theorem dX12_isSign_11 : decode cX12_isSign 11 = .ok (.aload_n 0, 1) := by decide +kernel
theorem dX12_isSign_12 : decode cX12_isSign 12 = .ok (.getfield 184, 3) := by decide +kernel
theorem dX12_isSign_15 : decode cX12_isSign 15 = .ok (.iaload, 1) := by decide +kernel
theorem dX12_isSign_16 : decode cX12_isSign 16 = .ok (.iconst 3, 1) := by decide +kernel
theorem dX12_isSign_17 : decode cX12_isSign 17 = .ok (.if_icmp .ne 22, 3) := by decide +kernel
theorem dX12_isSign_20 : decode cX12_isSign 20 = .ok (.aload_n 0, 1) := by decide +kernel
theorem dX12_isSign_21 : decode cX12_isSign 21 = .ok (.getfield 30, 3) := by decide +kernel
theorem dX12_isSign_24 : decode cX12_isSign 24 = .ok (.aload_n 0, 1) := by decide +kernel
theorem dX12_isSign_25 : decode cX12_isSign 25 = .ok (.getfield 184, 3) := by decide +kernel
theorem dX12_isSign_28 : decode cX12_isSign 28 = .ok (.laload, 1) := by decide +kernel
theorem dX12_isSign_29 : decode cX12_isSign 29 = .ok (.iload_n 1, 1) := by decide +kernel
theorem dX12_isSign_30 : decode cX12_isSign 30 = .ok (.i2l, 1) := by decide +kernel
theorem dX12_isSign_31 : decode cX12_isSign 31 = .ok (.lcmp, 1) := by decide +kernel
theorem dX12_isSign_32 : decode cX12_isSign 32 = .ok (.ifCond .ne 7, 3) := by decide +kernel
theorem dX12_isSign_35 : decode cX12_isSign 35 = .ok (.iconst 1, 1) := by decide +kernel
theorem dX12_isSign_36 : decode cX12_isSign 36 = .ok (.goto 4, 3) := by decide +kernel
theorem dX12_isSign_39 : decode cX12_isSign 39 = .ok (.iconst 0, 1) := by decide +kernel
theorem dX12_isSign_40 : decode cX12_isSign 40 = .ok (.ireturn, 1) := by decide +kernel
theorem dX12_isWord_0 : decode cX12_isWord 0 = .ok (.aload_n 0, 1) := by decide +kernel
theorem dX12_isWord_1 : decode cX12_isWord 1 = .ok (.getfield 187, 3) := by decide +kernel
theorem dX12_isWord_4 : decode cX12_isWord 4 = .ok (.ifCond .ne 39, 3) := by decide +kernel
theorem dX12_isWord_7 : decode cX12_isWord 7 = .ok (.aload_n 0, 1) := by decide +kernel
theorem dX12_isWord_8 : decode cX12_isWord 8 = .ok (.getfield 24, 3) := by decide +kernel
theorem dX12_isWord_11 : decode cX12_isWord 11 = .ok (.aload_n 0, 1) := by decide +kernel
theorem dX12_isWord_12 : decode cX12_isWord 12 = .ok (.getfield 184, 3) := by decide +kernel
theorem dX12_isWord_15 : decode cX12_isWord 15 = .ok (.iaload, 1) := by decide +kernel
theorem dX12_isWord_16 : decode cX12_isWord 16 = .ok (.iconst 1, 1) := by decide +kernel
theorem dX12_isWord_17 : decode cX12_isWord 17 = .ok (.if_icmp .ne 26, 3) := by decide +kernel
theorem dX12_isWord_20 : decode cX12_isWord 20 = .ok (.aload_n 0, 1) := by decide +kernel
theorem dX12_isWord_21 : decode cX12_isWord 21 = .ok (.getfield 30, 3) := by decide +kernel
theorem dX12_isWord_24 : decode cX12_isWord 24 = .ok (.aload_n 0, 1) := by decide +kernel
theorem dX12_isWord_25 : decode cX12_isWord 25 = .ok (.getfield 184, 3) := by decide +kernel
theorem dX12_isWord_28 : decode cX12_isWord 28 = .ok (.laload, 1) := by decide +kernel
theorem dX12_isWord_29 : decode cX12_isWord 29 = .ok (.aload_n 0, 1) := by decide +kernel
theorem dX12_isWord_30 : decode cX12_isWord 30 = .ok (.getfield 72, 3) := by decide +kernel
theorem dX12_isWord_33 : decode cX12_isWord 33 = .ok (.iload_n 1, 1) := by decide +kernel
theorem dX12_isWord_34 : decode cX12_isWord 34 = .ok (.laload, 1) := by decide +kernel
theorem dX12_isWord_35 : decode cX12_isWord 35 = .ok (.lcmp, 1) := by decide +kernel
theorem dX12_isWord_36 : decode cX12_isWord 36 = .ok (.ifCond .ne 7, 3) := by decide +kernel
theorem dX12_isWord_39 : decode cX12_isWord 39 = .ok (.iconst 1, 1) := by decide +kernel
theorem dX12_isWord_40 : decode cX12_isWord 40 = .ok (.goto 4, 3) := by decide +kernel
theorem dX12_isWord_43 : decode cX12_isWord 43 = .ok (.iconst 0, 1) := by decide +kernel
theorem dX12_isWord_44 : decode cX12_isWord 44 = .ok (.ireturn, 1) := by decide +kernel
theorem dX12_takeSign_0 : decode cX12_takeSign 0 = .ok (.aload_n 0, 1) := by decide +kernel
theorem dX12_takeSign_1 : decode cX12_takeSign 1 = .ok (.iload_n 1, 1) := by decide +kernel
theorem dX12_takeSign_2 : decode cX12_takeSign 2 = .ok (.invokevirtual 190, 3) := by decide +kernel
theorem dX12_takeSign_5 : decode cX12_takeSign 5 = .ok (.ifCond .eq 16, 3) := by decide +kernel
theorem dX12_takeSign_8 : decode cX12_takeSign 8 = .ok (.aload_n 0, 1) := by decide +kernel
theorem dX12_takeSign_9 : decode cX12_takeSign 9 = .ok (.dup, 1) := by decide +kernel
theorem dX12_takeSign_10 : decode cX12_takeSign 10 = .ok (.getfield 184, 3) := by decide +kernel
theorem dX12_takeSign_13 : decode cX12_takeSign 13 = .ok (.iconst 1, 1) := by decide +kernel
theorem dX12_takeSign_14 : decode cX12_takeSign 14 = .ok (.iadd, 1) := by decide +kernel
theorem dX12_takeSign_15 : decode cX12_takeSign 15 = .ok (.putfield 184, 3) := by decide +kernel
theorem dX12_takeSign_18 : decode cX12_takeSign 18 = .ok (.goto 8, 3) := by decide +kernel
theorem dX12_takeSign_21 : decode cX12_takeSign 21 = .ok (.aload_n 0, 1) := by decide +kernel
theorem dX12_takeSign_22 : decode cX12_takeSign 22 = .ok (.iconst 1, 1) := by decide +kernel
theorem dX12_takeSign_23 : decode cX12_takeSign 23 = .ok (.invokevirtual 193, 3) := by decide +kernel
theorem dX12_takeSign_26 : decode cX12_takeSign 26 = .ok (.return_, 1) := by decide +kernel
theorem dX12_hasSign_0 : decode cX12_hasSign 0 = .ok (.aload_n 0, 1) := by decide +kernel
theorem dX12_hasSign_1 : decode cX12_hasSign 1 = .ok (.iload_n 1, 1) := by decide +kernel
theorem dX12_hasSign_2 : decode cX12_hasSign 2 = .ok (.invokevirtual 190, 3) := by decide +kernel
theorem dX12_hasSign_5 : decode cX12_hasSign 5 = .ok (.istore_n 2, 1) := by decide +kernel
theorem dX12_hasSign_6 : decode cX12_hasSign 6 = .ok (.aload_n 0, 1) := by decide +kernel
theorem dX12_hasSign_7 : decode cX12_hasSign 7 = .ok (.dup, 1) := by decide +kernel
theorem dX12_hasSign_8 : decode cX12_hasSign 8 = .ok (.getfield 184, 3) := by decide +kernel
theorem dX12_hasSign_11 : decode cX12_hasSign 11 = .ok (.iload_n 2, 1) := by decide +kernel
theorem dX12_hasSign_12 : decode cX12_hasSign 12 = .ok (.ifCond .eq 7, 3) := by decide +kernel
theorem dX12_hasSign_15 : decode cX12_hasSign 15 = .ok (.iconst 1, 1) := by decide +kernel
theorem dX12_hasSign_16 : decode cX12_hasSign 16 = .ok (.goto 4, 3) := by decide +kernel
theorem dX12_hasSign_19 : decode cX12_hasSign 19 = .ok (.iconst 0, 1) := by decide +kernel
theorem dX12_hasSign_20 : decode cX12_hasSign 20 = .ok (.iadd, 1) := by decide +kernel
theorem dX12_hasSign_21 : decode cX12_hasSign 21 = .ok (.putfield 184, 3) := by decide +kernel
theorem dX12_hasSign_24 : decode cX12_hasSign 24 = .ok (.iload_n 2, 1) := by decide +kernel
theorem dX12_hasSign_25 : decode cX12_hasSign 25 = .ok (.ireturn, 1) := by decide +kernel
theorem dX12_hasWord_0 : decode cX12_hasWord 0 = .ok (.aload_n 0, 1) := by decide +kernel
theorem dX12_hasWord_1 : decode cX12_hasWord 1 = .ok (.iload_n 1, 1) := by decide +kernel
theorem dX12_hasWord_2 : decode cX12_hasWord 2 = .ok (.invokevirtual 196, 3) := by decide +kernel
theorem dX12_hasWord_5 : decode cX12_hasWord 5 = .ok (.istore_n 2, 1) := by decide +kernel
theorem dX12_hasWord_6 : decode cX12_hasWord 6 = .ok (.aload_n 0, 1) := by decide +kernel
theorem dX12_hasWord_7 : decode cX12_hasWord 7 = .ok (.dup, 1) := by decide +kernel
theorem dX12_hasWord_8 : decode cX12_hasWord 8 = .ok (.getfield 184, 3) := by decide +kernel
theorem dX12_hasWord_11 : decode cX12_hasWord 11 = .ok (.iload_n 2, 1) := by decide +kernel
theorem dX12_hasWord_12 : decode cX12_hasWord 12 = .ok (.ifCond .eq 7, 3) := by decide +kernel
theorem dX12_hasWord_15 : decode cX12_hasWord 15 = .ok (.iconst 1, 1) := by decide +kernel
theorem dX12_hasWord_16 : decode cX12_hasWord 16 = .ok (.goto 4, 3) := by decide +kernel
theorem dX12_hasWord_19 : decode cX12_hasWord 19 = .ok (.iconst 0, 1) := by decide +kernel
theorem dX12_hasWord_20 : decode cX12_hasWord 20 = .ok (.iadd, 1) := by decide +kernel
theorem dX12_hasWord_21 : decode cX12_hasWord 21 = .ok (.putfield 184, 3) := by decide +kernel
theorem dX12_hasWord_24 : decode cX12_hasWord 24 = .ok (.iload_n 2, 1) := by decide +kernel
theorem dX12_hasWord_25 : decode cX12_hasWord 25 = .ok (.ireturn, 1) := by decide +kernel
theorem dX12_within_0 : decode cX12_within 0 = .ok (.iload_n 0, 1) := by decide +kernel
theorem dX12_within_1 : decode cX12_within 1 = .ok (.iload_n 1, 1) := by decide +kernel
theorem dX12_within_2 : decode cX12_within 2 = .ok (.if_icmp .lt 12, 3) := by decide +kernel
theorem dX12_within_5 : decode cX12_within 5 = .ok (.iload_n 0, 1) := by decide +kernel
theorem dX12_within_6 : decode cX12_within 6 = .ok (.iload_n 2, 1) := by decide +kernel
theorem dX12_within_7 : decode cX12_within 7 = .ok (.if_icmp .gt 7, 3) := by decide +kernel
theorem dX12_within_10 : decode cX12_within 10 = .ok (.iconst 1, 1) := by decide +kernel
theorem dX12_within_11 : decode cX12_within 11 = .ok (.goto 4, 3) := by decide +kernel
theorem dX12_within_14 : decode cX12_within 14 = .ok (.iconst 0, 1) := by decide +kernel
theorem dX12_within_15 : decode cX12_within 15 = .ok (.ireturn, 1) := by decide +kernel
theorem dX12_standsAsAlways_0 : decode cX12_standsAsAlways 0 = .ok (.iconst 0, 1) := by decide +kernel
theorem dX12_standsAsAlways_1 : decode cX12_standsAsAlways 1 = .ok (.istore_n 2, 1) := by decide +kernel
theorem dX12_standsAsAlways_2 : decode cX12_standsAsAlways 2 = .ok (.iload_n 2, 1) := by decide +kernel
theorem dX12_standsAsAlways_3 : decode cX12_standsAsAlways 3 = .ok (.sipush 140, 3) := by decide +kernel
theorem dX12_standsAsAlways_6 : decode cX12_standsAsAlways 6 = .ok (.if_icmp .ge 18, 3) := by decide +kernel
theorem dX12_standsAsAlways_9 : decode cX12_standsAsAlways 9 = .ok (.aload_n 0, 1) := by decide +kernel
theorem dX12_standsAsAlways_10 : decode cX12_standsAsAlways 10 = .ok (.getfield 75, 3) := by decide +kernel
theorem dX12_standsAsAlways_13 : decode cX12_standsAsAlways 13 = .ok (.iload_n 1, 1) := by decide +kernel
theorem dX12_standsAsAlways_14 : decode cX12_standsAsAlways 14 = .ok (.iload_n 2, 1) := by decide +kernel
theorem dX12_standsAsAlways_15 : decode cX12_standsAsAlways 15 = .ok (.iadd, 1) := by decide +kernel
theorem dX12_standsAsAlways_16 : decode cX12_standsAsAlways 16 = .ok (.iconst 0, 1) := by decide +kernel
theorem dX12_standsAsAlways_17 : decode cX12_standsAsAlways 17 = .ok (.iastore, 1) := by decide +kernel
theorem dX12_standsAsAlways_18 : decode cX12_standsAsAlways 18 = .ok (.iinc 2 1, 3) := by decide +kernel
theorem dX12_standsAsAlways_21 : decode cX12_standsAsAlways 21 = .ok (.goto (-19), 3) := by decide +kernel
theorem dX12_standsAsAlways_24 : decode cX12_standsAsAlways 24 = .ok (.aload_n 0, 1) := by decide +kernel
theorem dX12_standsAsAlways_25 : decode cX12_standsAsAlways 25 = .ok (.getfield 75, 3) := by decide +kernel
theorem dX12_standsAsAlways_28 : decode cX12_standsAsAlways 28 = .ok (.iload_n 1, 1) := by decide +kernel
theorem dX12_standsAsAlways_29 : decode cX12_standsAsAlways 29 = .ok (.iconst 2, 1) := by decide +kernel
theorem dX12_standsAsAlways_30 : decode cX12_standsAsAlways 30 = .ok (.iadd, 1) := by decide +kernel
theorem dX12_standsAsAlways_31 : decode cX12_standsAsAlways 31 = .ok (.iconst (-1), 1) := by decide +kernel
theorem dX12_standsAsAlways_32 : decode cX12_standsAsAlways 32 = .ok (.iastore, 1) := by decide +kernel
theorem dX12_standsAsAlways_33 : decode cX12_standsAsAlways 33 = .ok (.return_, 1) := by decide +kernel
theorem dX12_takeNumber_0 : decode cX12_takeNumber 0 = .ok (.aload_n 0, 1) := by decide +kernel
theorem dX12_takeNumber_1 : decode cX12_takeNumber 1 = .ok (.getfield 187, 3) := by decide +kernel
theorem dX12_takeNumber_4 : decode cX12_takeNumber 4 = .ok (.ifCond .ne 24, 3) := by decide +kernel
theorem dX12_takeNumber_7 : decode cX12_takeNumber 7 = .ok (.aload_n 0, 1) := by decide +kernel
theorem dX12_takeNumber_8 : decode cX12_takeNumber 8 = .ok (.getfield 24, 3) := by decide +kernel
theorem dX12_takeNumber_11 : decode cX12_takeNumber 11 = .ok (.aload_n 0, 1) := by decide +kernel
theorem dX12_takeNumber_12 : decode cX12_takeNumber 12 = .ok (.getfield 184, 3) := by decide +kernel
theorem dX12_takeNumber_15 : decode cX12_takeNumber 15 = .ok (.iaload, 1) := by decide +kernel
theorem dX12_takeNumber_16 : decode cX12_takeNumber 16 = .ok (.iconst 2, 1) := by decide +kernel
theorem dX12_takeNumber_17 : decode cX12_takeNumber 17 = .ok (.if_icmp .eq 11, 3) := by decide +kernel
theorem dX12_takeNumber_20 : decode cX12_takeNumber 20 = .ok (.aload_n 0, 1) := by decide +kernel
theorem dX12_takeNumber_21 : decode cX12_takeNumber 21 = .ok (.iconst 1, 1) := by decide +kernel
theorem dX12_takeNumber_22 : decode cX12_takeNumber 22 = .ok (.invokevirtual 193, 3) := by decide +kernel
theorem dX12_takeNumber_25 : decode cX12_takeNumber 25 = .ok (.goto 45, 3) := by decide +kernel
theorem dX12_takeNumber_28 : decode cX12_takeNumber 28 = .ok (.aload_n 0, 1) := by decide +kernel
theorem dX12_takeNumber_29 : decode cX12_takeNumber 29 = .ok (.getfield 187, 3) := by decide +kernel
theorem dX12_takeNumber_32 : decode cX12_takeNumber 32 = .ok (.ifCond .ne 38, 3) := by decide +kernel
theorem dX12_takeNumber_35 : decode cX12_takeNumber 35 = .ok (.aload_n 0, 1) := by decide +kernel
theorem dX12_takeNumber_36 : decode cX12_takeNumber 36 = .ok (.getfield 30, 3) := by decide +kernel
theorem dX12_takeNumber_39 : decode cX12_takeNumber 39 = .ok (.aload_n 0, 1) := by decide +kernel
theorem dX12_takeNumber_40 : decode cX12_takeNumber 40 = .ok (.getfield 184, 3) := by decide +kernel
theorem dX12_takeNumber_43 : decode cX12_takeNumber 43 = .ok (.laload, 1) := by decide +kernel
theorem dX12_takeNumber_44 : decode cX12_takeNumber 44 = .ok (.iload_n 1, 1) := by decide +kernel
theorem dX12_takeNumber_45 : decode cX12_takeNumber 45 = .ok (.i2l, 1) := by decide +kernel
theorem dX12_takeNumber_46 : decode cX12_takeNumber 46 = .ok (.lcmp, 1) := by decide +kernel
theorem dX12_takeNumber_47 : decode cX12_takeNumber 47 = .ok (.ifCond .lt 18, 3) := by decide +kernel
theorem dX12_takeNumber_50 : decode cX12_takeNumber 50 = .ok (.aload_n 0, 1) := by decide +kernel
theorem dX12_takeNumber_51 : decode cX12_takeNumber 51 = .ok (.getfield 30, 3) := by decide +kernel
theorem dX12_takeNumber_54 : decode cX12_takeNumber 54 = .ok (.aload_n 0, 1) := by decide +kernel
theorem dX12_takeNumber_55 : decode cX12_takeNumber 55 = .ok (.getfield 184, 3) := by decide +kernel
theorem dX12_takeNumber_58 : decode cX12_takeNumber 58 = .ok (.laload, 1) := by decide +kernel
theorem dX12_takeNumber_59 : decode cX12_takeNumber 59 = .ok (.iload_n 2, 1) := by decide +kernel
theorem dX12_takeNumber_60 : decode cX12_takeNumber 60 = .ok (.i2l, 1) := by decide +kernel
theorem dX12_takeNumber_61 : decode cX12_takeNumber 61 = .ok (.lcmp, 1) := by decide +kernel
theorem dX12_takeNumber_62 : decode cX12_takeNumber 62 = .ok (.ifCond .le 8, 3) := by decide +kernel
theorem dX12_takeNumber_65 : decode cX12_takeNumber 65 = .ok (.aload_n 0, 1) := by decide +kernel
theorem dX12_takeNumber_66 : decode cX12_takeNumber 66 = .ok (.iconst 4, 1) := by decide +kernel
theorem dX12_takeNumber_67 : decode cX12_takeNumber 67 = .ok (.invokevirtual 193, 3) := by decide +kernel
theorem dX12_takeNumber_70 : decode cX12_takeNumber 70 = .ok (.aload_n 0, 1) := by decide +kernel
theorem dX12_takeNumber_71 : decode cX12_takeNumber 71 = .ok (.getfield 187, 3) := by decide +kernel
theorem dX12_takeNumber_74 : decode cX12_takeNumber 74 = .ok (.ifCond .le 5, 3) := by decide +kernel
theorem dX12_takeNumber_77 : decode cX12_takeNumber 77 = .ok (.iconst 0, 1) := by decide +kernel
theorem dX12_takeNumber_78 : decode cX12_takeNumber 78 = .ok (.ireturn, 1) := by decide +kernel
theorem dX12_takeNumber_79 : decode cX12_takeNumber 79 = .ok (.aload_n 0, 1) := by decide +kernel
theorem dX12_takeNumber_80 : decode cX12_takeNumber 80 = .ok (.dup, 1) := by decide +kernel
theorem dX12_takeNumber_81 : decode cX12_takeNumber 81 = .ok (.getfield 184, 3) := by decide +kernel
theorem dX12_takeNumber_84 : decode cX12_takeNumber 84 = .ok (.iconst 1, 1) := by decide +kernel
theorem dX12_takeNumber_85 : decode cX12_takeNumber 85 = .ok (.iadd, 1) := by decide +kernel
theorem dX12_takeNumber_86 : decode cX12_takeNumber 86 = .ok (.putfield 184, 3) := by decide +kernel
theorem dX12_takeNumber_89 : decode cX12_takeNumber 89 = .ok (.aload_n 0, 1) := by decide +kernel
theorem dX12_takeNumber_90 : decode cX12_takeNumber 90 = .ok (.getfield 30, 3) := by decide +kernel
theorem dX12_takeNumber_93 : decode cX12_takeNumber 93 = .ok (.aload_n 0, 1) := by decide +kernel
theorem dX12_takeNumber_94 : decode cX12_takeNumber 94 = .ok (.getfield 184, 3) := by decide +kernel
theorem dX12_takeNumber_97 : decode cX12_takeNumber 97 = .ok (.iconst 1, 1) := by decide +kernel
theorem dX12_takeNumber_98 : decode cX12_takeNumber 98 = .ok (.isub, 1) := by decide +kernel
theorem dX12_takeNumber_99 : decode cX12_takeNumber 99 = .ok (.laload, 1) := by decide +kernel
theorem dX12_takeNumber_100 : decode cX12_takeNumber 100 = .ok (.l2i, 1) := by decide +kernel
theorem dX12_takeNumber_101 : decode cX12_takeNumber 101 = .ok (.ireturn, 1) := by decide +kernel
theorem dX12_wordHere_0 : decode cX12_wordHere 0 = .ok (.iconst (-1), 1) := by decide +kernel
theorem dX12_wordHere_1 : decode cX12_wordHere 1 = .ok (.istore_n 3, 1) := by decide +kernel
theorem dX12_wordHere_2 : decode cX12_wordHere 2 = .ok (.iconst 0, 1) := by decide +kernel
theorem dX12_wordHere_3 : decode cX12_wordHere 3 = .ok (.istore 4, 2) := by decide +kernel
theorem dX12_wordHere_5 : decode cX12_wordHere 5 = .ok (.iload 4, 2) := by decide +kernel
theorem dX12_wordHere_7 : decode cX12_wordHere 7 = .ok (.iload_n 2, 1) := by decide +kernel
theorem dX12_wordHere_8 : decode cX12_wordHere 8 = .ok (.if_icmp .ge 27, 3) := by decide +kernel
theorem dX12_wordHere_11 : decode cX12_wordHere 11 = .ok (.aload_n 0, 1) := by decide +kernel
theorem dX12_wordHere_12 : decode cX12_wordHere 12 = .ok (.iload_n 1, 1) := by decide +kernel
theorem dX12_wordHere_13 : decode cX12_wordHere 13 = .ok (.iload 4, 2) := by decide +kernel
theorem dX12_wordHere_15 : decode cX12_wordHere 15 = .ok (.iadd, 1) := by decide +kernel
theorem dX12_wordHere_16 : decode cX12_wordHere 16 = .ok (.invokevirtual 196, 3) := by decide +kernel
theorem dX12_wordHere_19 : decode cX12_wordHere 19 = .ok (.ifCond .eq 8, 3) := by decide +kernel
theorem dX12_wordHere_22 : decode cX12_wordHere 22 = .ok (.iload 4, 2) := by decide +kernel
theorem dX12_wordHere_24 : decode cX12_wordHere 24 = .ok (.goto 4, 3) := by decide +kernel
theorem dX12_wordHere_27 : decode cX12_wordHere 27 = .ok (.iload_n 3, 1) := by decide +kernel
theorem dX12_wordHere_28 : decode cX12_wordHere 28 = .ok (.istore_n 3, 1) := by decide +kernel
theorem dX12_wordHere_29 : decode cX12_wordHere 29 = .ok (.iinc 4 1, 3) := by decide +kernel
theorem dX12_wordHere_32 : decode cX12_wordHere 32 = .ok (.goto (-27), 3) := by decide +kernel
theorem dX12_wordHere_35 : decode cX12_wordHere 35 = .ok (.iload_n 3, 1) := by decide +kernel
theorem dX12_wordHere_36 : decode cX12_wordHere 36 = .ok (.ireturn, 1) := by decide +kernel
theorem dX12_takeOne_0 : decode cX12_takeOne 0 = .ok (.aload_n 0, 1) := by decide +kernel
theorem dX12_takeOne_1 : decode cX12_takeOne 1 = .ok (.getfield 187, 3) := by decide +kernel
theorem dX12_takeOne_4 : decode cX12_takeOne 4 = .ok (.ifCond .le 7, 3) := by decide +kernel
theorem dX12_takeOne_7 : decode cX12_takeOne 7 = .ok (.iconst (-1), 1) := by decide +kernel
theorem dX12_takeOne_8 : decode cX12_takeOne 8 = .ok (.goto 9, 3) := by decide +kernel
theorem dX12_takeOne_11 : decode cX12_takeOne 11 = .ok (.aload_n 0, 1) := by decide +kernel
theorem dX12_takeOne_12 : decode cX12_takeOne 12 = .ok (.iload_n 1, 1) := by decide +kernel
theorem dX12_takeOne_13 : decode cX12_takeOne 13 = .ok (.iload_n 2, 1) := by decide +kernel
theorem dX12_takeOne_14 : decode cX12_takeOne 14 = .ok (.invokevirtual 202, 3) := by decide +kernel
theorem dX12_takeOne_17 : decode cX12_takeOne 17 = .ok (.istore_n 3, 1) := by decide +kernel
theorem dX12_takeOne_18 : decode cX12_takeOne 18 = .ok (.aload_n 0, 1) := by decide +kernel
theorem dX12_takeOne_19 : decode cX12_takeOne 19 = .ok (.getfield 187, 3) := by decide +kernel
theorem dX12_takeOne_22 : decode cX12_takeOne 22 = .ok (.ifCond .ne 12, 3) := by decide +kernel
theorem dX12_takeOne_25 : decode cX12_takeOne 25 = .ok (.iload_n 3, 1) := by decide +kernel
theorem dX12_takeOne_26 : decode cX12_takeOne 26 = .ok (.ifCond .ge 8, 3) := by decide +kernel
theorem dX12_takeOne_29 : decode cX12_takeOne 29 = .ok (.aload_n 0, 1) := by decide +kernel
theorem dX12_takeOne_30 : decode cX12_takeOne 30 = .ok (.iconst 1, 1) := by decide +kernel
theorem dX12_takeOne_31 : decode cX12_takeOne 31 = .ok (.invokevirtual 193, 3) := by decide +kernel
theorem dX12_takeOne_34 : decode cX12_takeOne 34 = .ok (.aload_n 0, 1) := by decide +kernel
theorem dX12_takeOne_35 : decode cX12_takeOne 35 = .ok (.dup, 1) := by decide +kernel
theorem dX12_takeOne_36 : decode cX12_takeOne 36 = .ok (.getfield 184, 3) := by decide +kernel
theorem dX12_takeOne_39 : decode cX12_takeOne 39 = .ok (.aload_n 0, 1) := by decide +kernel
theorem dX12_takeOne_40 : decode cX12_takeOne 40 = .ok (.getfield 187, 3) := by decide +kernel
theorem dX12_takeOne_43 : decode cX12_takeOne 43 = .ok (.ifCond .le 7, 3) := by decide +kernel
theorem dX12_takeOne_46 : decode cX12_takeOne 46 = .ok (.iconst 0, 1) := by decide +kernel
theorem dX12_takeOne_47 : decode cX12_takeOne 47 = .ok (.goto 4, 3) := by decide +kernel
theorem dX12_takeOne_50 : decode cX12_takeOne 50 = .ok (.iconst 1, 1) := by decide +kernel
theorem dX12_takeOne_51 : decode cX12_takeOne 51 = .ok (.iadd, 1) := by decide +kernel
theorem dX12_takeOne_52 : decode cX12_takeOne 52 = .ok (.putfield 184, 3) := by decide +kernel
theorem dX12_takeOne_55 : decode cX12_takeOne 55 = .ok (.aload_n 0, 1) := by decide +kernel
theorem dX12_takeOne_56 : decode cX12_takeOne 56 = .ok (.getfield 187, 3) := by decide +kernel
theorem dX12_takeOne_59 : decode cX12_takeOne 59 = .ok (.ifCond .le 7, 3) := by decide +kernel
theorem dX12_takeOne_62 : decode cX12_takeOne 62 = .ok (.iconst 0, 1) := by decide +kernel
theorem dX12_takeOne_63 : decode cX12_takeOne 63 = .ok (.goto 4, 3) := by decide +kernel
theorem dX12_takeOne_66 : decode cX12_takeOne 66 = .ok (.iload_n 3, 1) := by decide +kernel
theorem dX12_takeOne_67 : decode cX12_takeOne 67 = .ok (.ireturn, 1) := by decide +kernel
theorem dX12_isName_0 : decode cX12_isName 0 = .ok (.aload_n 0, 1) := by decide +kernel
theorem dX12_isName_1 : decode cX12_isName 1 = .ok (.getfield 187, 3) := by decide +kernel
theorem dX12_isName_4 : decode cX12_isName 4 = .ok (.ifCond .ne 30, 3) := by decide +kernel
theorem dX12_isName_7 : decode cX12_isName 7 = .ok (.aload_n 0, 1) := by decide +kernel
theorem dX12_isName_8 : decode cX12_isName 8 = .ok (.getfield 24, 3) := by decide +kernel
theorem dX12_isName_11 : decode cX12_isName 11 = .ok (.aload_n 0, 1) := by decide +kernel
theorem dX12_isName_12 : decode cX12_isName 12 = .ok (.getfield 184, 3) := by decide +kernel
theorem dX12_isName_15 : decode cX12_isName 15 = .ok (.iaload, 1) := by decide +kernel
theorem dX12_isName_16 : decode cX12_isName 16 = .ok (.iconst 1, 1) := by decide +kernel
theorem dX12_isName_17 : decode cX12_isName 17 = .ok (.if_icmp .ne 17, 3) := by decide +kernel
theorem dX12_isName_20 : decode cX12_isName 20 = .ok (.aload_n 0, 1) := by decide +kernel
theorem dX12_isName_21 : decode cX12_isName 21 = .ok (.iconst 0, 1) := by decide +kernel
theorem dX12_isName_22 : decode cX12_isName 22 = .ok (.bipush 15, 2) := by decide +kernel
theorem dX12_isName_24 : decode cX12_isName 24 = .ok (.invokevirtual 202, 3) := by decide +kernel
theorem dX12_isName_27 : decode cX12_isName 27 = .ok (.ifCond .ge 7, 3) := by decide +kernel
theorem dX12_isName_30 : decode cX12_isName 30 = .ok (.iconst 1, 1) := by decide +kernel
theorem dX12_isName_31 : decode cX12_isName 31 = .ok (.goto 4, 3) := by decide +kernel
theorem dX12_isName_34 : decode cX12_isName 34 = .ok (.iconst 0, 1) := by decide +kernel
theorem dX12_isName_35 : decode cX12_isName 35 = .ok (.ireturn, 1) := by decide +kernel
theorem dX12_nameAt_0 : decode cX12_nameAt 0 = .ok (.iconst (-1), 1) := by decide +kernel
theorem dX12_nameAt_1 : decode cX12_nameAt 1 = .ok (.istore_n 3, 1) := by decide +kernel
theorem dX12_nameAt_2 : decode cX12_nameAt 2 = .ok (.iconst 0, 1) := by decide +kernel
theorem dX12_nameAt_3 : decode cX12_nameAt 3 = .ok (.istore 4, 2) := by decide +kernel
theorem dX12_nameAt_5 : decode cX12_nameAt 5 = .ok (.iload 4, 2) := by decide +kernel
theorem dX12_nameAt_7 : decode cX12_nameAt 7 = .ok (.iload_n 2, 1) := by decide +kernel
theorem dX12_nameAt_8 : decode cX12_nameAt 8 = .ok (.if_icmp .ge 38, 3) := by decide +kernel
theorem dX12_nameAt_11 : decode cX12_nameAt 11 = .ok (.aload_n 0, 1) := by decide +kernel
theorem dX12_nameAt_12 : decode cX12_nameAt 12 = .ok (.getfield 81, 3) := by decide +kernel
theorem dX12_nameAt_15 : decode cX12_nameAt 15 = .ok (.iload_n 1, 1) := by decide +kernel
theorem dX12_nameAt_16 : decode cX12_nameAt 16 = .ok (.iload 4, 2) := by decide +kernel
theorem dX12_nameAt_18 : decode cX12_nameAt 18 = .ok (.iadd, 1) := by decide +kernel
theorem dX12_nameAt_19 : decode cX12_nameAt 19 = .ok (.laload, 1) := by decide +kernel
theorem dX12_nameAt_20 : decode cX12_nameAt 20 = .ok (.aload_n 0, 1) := by decide +kernel
theorem dX12_nameAt_21 : decode cX12_nameAt 21 = .ok (.getfield 30, 3) := by decide +kernel
theorem dX12_nameAt_24 : decode cX12_nameAt 24 = .ok (.aload_n 0, 1) := by decide +kernel
theorem dX12_nameAt_25 : decode cX12_nameAt 25 = .ok (.getfield 184, 3) := by decide +kernel
theorem dX12_nameAt_28 : decode cX12_nameAt 28 = .ok (.laload, 1) := by decide +kernel
theorem dX12_nameAt_29 : decode cX12_nameAt 29 = .ok (.lcmp, 1) := by decide +kernel
theorem dX12_nameAt_30 : decode cX12_nameAt 30 = .ok (.ifCond .ne 8, 3) := by decide +kernel
theorem dX12_nameAt_33 : decode cX12_nameAt 33 = .ok (.iload 4, 2) := by decide +kernel
theorem dX12_nameAt_35 : decode cX12_nameAt 35 = .ok (.goto 4, 3) := by decide +kernel
theorem dX12_nameAt_38 : decode cX12_nameAt 38 = .ok (.iload_n 3, 1) := by decide +kernel
theorem dX12_nameAt_39 : decode cX12_nameAt 39 = .ok (.istore_n 3, 1) := by decide +kernel
theorem dX12_nameAt_40 : decode cX12_nameAt 40 = .ok (.iinc 4 1, 3) := by decide +kernel
theorem dX12_nameAt_43 : decode cX12_nameAt 43 = .ok (.goto (-38), 3) := by decide +kernel
theorem dX12_nameAt_46 : decode cX12_nameAt 46 = .ok (.iload_n 3, 1) := by decide +kernel
theorem dX12_nameAt_47 : decode cX12_nameAt 47 = .ok (.ireturn, 1) := by decide +kernel
theorem dX12_takeTold_0 : decode cX12_takeTold 0 = .ok (.aload_n 0, 1) := by decide +kernel
theorem dX12_takeTold_1 : decode cX12_takeTold 1 = .ok (.getfield 187, 3) := by decide +kernel
theorem dX12_takeTold_4 : decode cX12_takeTold 4 = .ok (.ifCond .ne 15, 3) := by decide +kernel
theorem dX12_takeTold_7 : decode cX12_takeTold 7 = .ok (.aload_n 0, 1) := by decide +kernel
theorem dX12_takeTold_8 : decode cX12_takeTold 8 = .ok (.invokevirtual 206, 3) := by decide +kernel
theorem dX12_takeTold_11 : decode cX12_takeTold 11 = .ok (.ifCond .ne 8, 3) := by decide +kernel
theorem dX12_takeTold_14 : decode cX12_takeTold 14 = .ok (.aload_n 0, 1) := by decide +kernel
theorem dX12_takeTold_15 : decode cX12_takeTold 15 = .ok (.iconst 1, 1) := by decide +kernel
theorem dX12_takeTold_16 : decode cX12_takeTold 16 = .ok (.invokevirtual 193, 3) := by decide +kernel
theorem dX12_takeTold_19 : decode cX12_takeTold 19 = .ok (.aload_n 0, 1) := by decide +kernel
theorem dX12_takeTold_20 : decode cX12_takeTold 20 = .ok (.getfield 187, 3) := by decide +kernel
theorem dX12_takeTold_23 : decode cX12_takeTold 23 = .ok (.ifCond .le 7, 3) := by decide +kernel
theorem dX12_takeTold_26 : decode cX12_takeTold 26 = .ok (.iconst (-1), 1) := by decide +kernel
theorem dX12_takeTold_27 : decode cX12_takeTold 27 = .ok (.goto 9, 3) := by decide +kernel
theorem dX12_takeTold_30 : decode cX12_takeTold 30 = .ok (.aload_n 0, 1) := by decide +kernel
theorem dX12_takeTold_31 : decode cX12_takeTold 31 = .ok (.iload_n 1, 1) := by decide +kernel
theorem dX12_takeTold_32 : decode cX12_takeTold 32 = .ok (.iload_n 2, 1) := by decide +kernel
theorem dX12_takeTold_33 : decode cX12_takeTold 33 = .ok (.invokevirtual 210, 3) := by decide +kernel
theorem dX12_takeTold_36 : decode cX12_takeTold 36 = .ok (.istore_n 3, 1) := by decide +kernel
theorem dX12_takeTold_37 : decode cX12_takeTold 37 = .ok (.aload_n 0, 1) := by decide +kernel
theorem dX12_takeTold_38 : decode cX12_takeTold 38 = .ok (.getfield 187, 3) := by decide +kernel
theorem dX12_takeTold_41 : decode cX12_takeTold 41 = .ok (.ifCond .ne 12, 3) := by decide +kernel
theorem dX12_takeTold_44 : decode cX12_takeTold 44 = .ok (.iload_n 3, 1) := by decide +kernel
theorem dX12_takeTold_45 : decode cX12_takeTold 45 = .ok (.ifCond .ge 8, 3) := by decide +kernel
theorem dX12_takeTold_48 : decode cX12_takeTold 48 = .ok (.aload_n 0, 1) := by decide +kernel
theorem dX12_takeTold_49 : decode cX12_takeTold 49 = .ok (.iconst 2, 1) := by decide +kernel
theorem dX12_takeTold_50 : decode cX12_takeTold 50 = .ok (.invokevirtual 193, 3) := by decide +kernel
theorem dX12_takeTold_53 : decode cX12_takeTold 53 = .ok (.aload_n 0, 1) := by decide +kernel
theorem dX12_takeTold_54 : decode cX12_takeTold 54 = .ok (.dup, 1) := by decide +kernel
theorem dX12_takeTold_55 : decode cX12_takeTold 55 = .ok (.getfield 184, 3) := by decide +kernel
theorem dX12_takeTold_58 : decode cX12_takeTold 58 = .ok (.aload_n 0, 1) := by decide +kernel
theorem dX12_takeTold_59 : decode cX12_takeTold 59 = .ok (.getfield 187, 3) := by decide +kernel
theorem dX12_takeTold_62 : decode cX12_takeTold 62 = .ok (.ifCond .le 7, 3) := by decide +kernel
theorem dX12_takeTold_65 : decode cX12_takeTold 65 = .ok (.iconst 0, 1) := by decide +kernel
theorem dX12_takeTold_66 : decode cX12_takeTold 66 = .ok (.goto 4, 3) := by decide +kernel
theorem dX12_takeTold_69 : decode cX12_takeTold 69 = .ok (.iconst 1, 1) := by decide +kernel
theorem dX12_takeTold_70 : decode cX12_takeTold 70 = .ok (.iadd, 1) := by decide +kernel
theorem dX12_takeTold_71 : decode cX12_takeTold 71 = .ok (.putfield 184, 3) := by decide +kernel
theorem dX12_takeTold_74 : decode cX12_takeTold 74 = .ok (.aload_n 0, 1) := by decide +kernel
theorem dX12_takeTold_75 : decode cX12_takeTold 75 = .ok (.getfield 187, 3) := by decide +kernel
theorem dX12_takeTold_78 : decode cX12_takeTold 78 = .ok (.ifCond .le 7, 3) := by decide +kernel
theorem dX12_takeTold_81 : decode cX12_takeTold 81 = .ok (.iconst 0, 1) := by decide +kernel
theorem dX12_takeTold_82 : decode cX12_takeTold 82 = .ok (.goto 4, 3) := by decide +kernel
theorem dX12_takeTold_85 : decode cX12_takeTold 85 = .ok (.iload_n 3, 1) := by decide +kernel
theorem dX12_takeTold_86 : decode cX12_takeTold 86 = .ok (.ireturn, 1) := by decide +kernel
theorem dX12_index_0 : decode cX12_index 0 = .ok (.aload_n 0, 1) := by decide +kernel
theorem dX12_index_1 : decode cX12_index 1 = .ok (.iconst 0, 1) := by decide +kernel
theorem dX12_index_2 : decode cX12_index 2 = .ok (.putfield 1, 3) := by decide +kernel
theorem dX12_index_5 : decode cX12_index 5 = .ok (.aload_n 0, 1) := by decide +kernel
theorem dX12_index_6 : decode cX12_index 6 = .ok (.invokevirtual 213, 3) := by decide +kernel
theorem dX12_index_9 : decode cX12_index 9 = .ok (.aload_n 0, 1) := by decide +kernel
theorem dX12_index_10 : decode cX12_index 10 = .ok (.iconst 0, 1) := by decide +kernel
theorem dX12_index_11 : decode cX12_index 11 = .ok (.putfield 216, 3) := by decide +kernel
theorem dX12_index_14 : decode cX12_index 14 = .ok (.aload_n 0, 1) := by decide +kernel
theorem dX12_index_15 : decode cX12_index 15 = .ok (.sipush 140, 3) := by decide +kernel
theorem dX12_index_18 : decode cX12_index 18 = .ok (.invokevirtual 154, 3) := by decide +kernel
theorem dX12_index_21 : decode cX12_index 21 = .ok (.aload_n 0, 1) := by decide +kernel
theorem dX12_index_22 : decode cX12_index 22 = .ok (.getfield 187, 3) := by decide +kernel
theorem dX12_index_25 : decode cX12_index 25 = .ok (.ifCond .ne 28, 3) := by decide +kernel
theorem dX12_index_28 : decode cX12_index 28 = .ok (.aload_n 0, 1) := by decide +kernel
theorem dX12_index_29 : decode cX12_index 29 = .ok (.getfield 24, 3) := by decide +kernel
theorem dX12_index_32 : decode cX12_index 32 = .ok (.aload_n 0, 1) := by decide +kernel
theorem dX12_index_33 : decode cX12_index 33 = .ok (.getfield 184, 3) := by decide +kernel
theorem dX12_index_36 : decode cX12_index 36 = .ok (.iaload, 1) := by decide +kernel
theorem dX12_index_37 : decode cX12_index 37 = .ok (.ifCond .eq 16, 3) := by decide +kernel
theorem dX12_index_40 : decode cX12_index 40 = .ok (.aload_n 0, 1) := by decide +kernel
theorem dX12_index_41 : decode cX12_index 41 = .ok (.invokevirtual 219, 3) := by decide +kernel
theorem dX12_index_44 : decode cX12_index 44 = .ok (.aload_n 0, 1) := by decide +kernel
theorem dX12_index_45 : decode cX12_index 45 = .ok (.bipush 59, 2) := by decide +kernel
theorem dX12_index_47 : decode cX12_index 47 = .ok (.invokevirtual 222, 3) := by decide +kernel
theorem dX12_index_50 : decode cX12_index 50 = .ok (.goto (-29), 3) := by decide +kernel
theorem dX12_index_53 : decode cX12_index 53 = .ok (.aload_n 0, 1) := by decide +kernel
theorem dX12_index_54 : decode cX12_index 54 = .ok (.getfield 187, 3) := by decide +kernel
theorem dX12_index_57 : decode cX12_index 57 = .ok (.ifCond .le 8, 3) := by decide +kernel
theorem dX12_index_60 : decode cX12_index 60 = .ok (.aload_n 0, 1) := by decide +kernel
theorem dX12_index_61 : decode cX12_index 61 = .ok (.getfield 187, 3) := by decide +kernel
theorem dX12_index_64 : decode cX12_index 64 = .ok (.ireturn, 1) := by decide +kernel
theorem dX12_index_65 : decode cX12_index 65 = .ok (.iconst 0, 1) := by decide +kernel
theorem dX12_index_66 : decode cX12_index 66 = .ok (.istore_n 1, 1) := by decide +kernel
theorem dX12_index_67 : decode cX12_index 67 = .ok (.iload_n 1, 1) := by decide +kernel
theorem dX12_index_68 : decode cX12_index 68 = .ok (.sipush 140, 3) := by decide +kernel
theorem dX12_index_71 : decode cX12_index 71 = .ok (.if_icmp .ge 25, 3) := by decide +kernel
theorem dX12_index_74 : decode cX12_index 74 = .ok (.aload_n 0, 1) := by decide +kernel
theorem dX12_index_75 : decode cX12_index 75 = .ok (.getfield 75, 3) := by decide +kernel
theorem dX12_index_78 : decode cX12_index 78 = .ok (.iload_n 1, 1) := by decide +kernel
theorem dX12_index_79 : decode cX12_index 79 = .ok (.aload_n 0, 1) := by decide +kernel
theorem dX12_index_80 : decode cX12_index 80 = .ok (.getfield 75, 3) := by decide +kernel
theorem dX12_index_83 : decode cX12_index 83 = .ok (.sipush 140, 3) := by decide +kernel
theorem dX12_index_86 : decode cX12_index 86 = .ok (.iload_n 1, 1) := by decide +kernel
theorem dX12_index_87 : decode cX12_index 87 = .ok (.iadd, 1) := by decide +kernel
theorem dX12_index_88 : decode cX12_index 88 = .ok (.iaload, 1) := by decide +kernel
theorem dX12_index_89 : decode cX12_index 89 = .ok (.iastore, 1) := by decide +kernel
theorem dX12_index_90 : decode cX12_index 90 = .ok (.iinc 1 1, 3) := by decide +kernel
theorem dX12_index_93 : decode cX12_index 93 = .ok (.goto (-26), 3) := by decide +kernel
theorem dX12_index_96 : decode cX12_index 96 = .ok (.iconst 0, 1) := by decide +kernel
theorem dX12_index_97 : decode cX12_index 97 = .ok (.istore_n 1, 1) := by decide +kernel
theorem dX12_index_98 : decode cX12_index 98 = .ok (.iload_n 1, 1) := by decide +kernel
theorem dX12_index_99 : decode cX12_index 99 = .ok (.aload_n 0, 1) := by decide +kernel
theorem dX12_index_100 : decode cX12_index 100 = .ok (.getfield 216, 3) := by decide +kernel
theorem dX12_index_103 : decode cX12_index 103 = .ok (.if_icmp .ge 25, 3) := by decide +kernel
theorem dX12_index_106 : decode cX12_index 106 = .ok (.aload_n 0, 1) := by decide +kernel
theorem dX12_index_107 : decode cX12_index 107 = .ok (.getfield 78, 3) := by decide +kernel
theorem dX12_index_110 : decode cX12_index 110 = .ok (.iload_n 1, 1) := by decide +kernel
theorem dX12_index_111 : decode cX12_index 111 = .ok (.aload_n 0, 1) := by decide +kernel
theorem dX12_index_112 : decode cX12_index 112 = .ok (.getfield 78, 3) := by decide +kernel
theorem dX12_index_115 : decode cX12_index 115 = .ok (.sipush 1100, 3) := by decide +kernel
theorem dX12_index_118 : decode cX12_index 118 = .ok (.iload_n 1, 1) := by decide +kernel
theorem dX12_index_119 : decode cX12_index 119 = .ok (.iadd, 1) := by decide +kernel
theorem dX12_index_120 : decode cX12_index 120 = .ok (.iaload, 1) := by decide +kernel
theorem dX12_index_121 : decode cX12_index 121 = .ok (.iastore, 1) := by decide +kernel
theorem dX12_index_122 : decode cX12_index 122 = .ok (.iinc 1 1, 3) := by decide +kernel
theorem dX12_index_125 : decode cX12_index 125 = .ok (.goto (-27), 3) := by decide +kernel
theorem dX12_index_128 : decode cX12_index 128 = .ok (.iconst 0, 1) := by decide +kernel
theorem dX12_index_129 : decode cX12_index 129 = .ok (.istore_n 1, 1) := by decide +kernel
theorem dX12_index_130 : decode cX12_index 130 = .ok (.iload_n 1, 1) := by decide +kernel
theorem dX12_index_131 : decode cX12_index 131 = .ok (.bipush 8, 2) := by decide +kernel
theorem dX12_index_133 : decode cX12_index 133 = .ok (.if_icmp .ge 24, 3) := by decide +kernel
theorem dX12_index_136 : decode cX12_index 136 = .ok (.aload_n 0, 1) := by decide +kernel
theorem dX12_index_137 : decode cX12_index 137 = .ok (.getfield 81, 3) := by decide +kernel
theorem dX12_index_140 : decode cX12_index 140 = .ok (.iload_n 1, 1) := by decide +kernel
theorem dX12_index_141 : decode cX12_index 141 = .ok (.aload_n 0, 1) := by decide +kernel
theorem dX12_index_142 : decode cX12_index 142 = .ok (.getfield 81, 3) := by decide +kernel
theorem dX12_index_145 : decode cX12_index 145 = .ok (.bipush 8, 2) := by decide +kernel
theorem dX12_index_147 : decode cX12_index 147 = .ok (.iload_n 1, 1) := by decide +kernel
theorem dX12_index_148 : decode cX12_index 148 = .ok (.iadd, 1) := by decide +kernel
theorem dX12_index_149 : decode cX12_index 149 = .ok (.laload, 1) := by decide +kernel
theorem dX12_index_150 : decode cX12_index 150 = .ok (.lastore, 1) := by decide +kernel
theorem dX12_index_151 : decode cX12_index 151 = .ok (.iinc 1 1, 3) := by decide +kernel
theorem dX12_index_154 : decode cX12_index 154 = .ok (.goto (-24), 3) := by decide +kernel
theorem dX12_index_157 : decode cX12_index 157 = .ok (.aload_n 0, 1) := by decide +kernel
theorem dX12_index_158 : decode cX12_index 158 = .ok (.invokevirtual 158, 3) := by decide +kernel
theorem dX12_index_161 : decode cX12_index 161 = .ok (.iconst 0, 1) := by decide +kernel
theorem dX12_index_162 : decode cX12_index 162 = .ok (.ireturn, 1) := by decide +kernel
theorem dX12_read_0 : decode cX12_read 0 = .ok (.aload_n 0, 1) := by decide +kernel
theorem dX12_read_1 : decode cX12_read 1 = .ok (.getfield 75, 3) := by decide +kernel
theorem dX12_read_4 : decode cX12_read 4 = .ok (.sipush 140, 3) := by decide +kernel
theorem dX12_read_7 : decode cX12_read 7 = .ok (.iload_n 1, 1) := by decide +kernel
theorem dX12_read_8 : decode cX12_read 8 = .ok (.iadd, 1) := by decide +kernel
theorem dX12_read_9 : decode cX12_read 9 = .ok (.iaload, 1) := by decide +kernel
theorem dX12_read_10 : decode cX12_read 10 = .ok (.ireturn, 1) := by decide +kernel
theorem dX12_readName_0 : decode cX12_readName 0 = .ok (.iload_n 2, 1) := by decide +kernel
theorem dX12_readName_1 : decode cX12_readName 1 = .ok (.iconst 4, 1) := by decide +kernel
theorem dX12_readName_2 : decode cX12_readName 2 = .ok (.if_icmp .ne 9, 3) := by decide +kernel
theorem dX12_readName_5 : decode cX12_readName 5 = .ok (.aload_n 0, 1) := by decide +kernel
theorem dX12_readName_6 : decode cX12_readName 6 = .ok (.iconst 5, 1) := by decide +kernel
theorem dX12_readName_7 : decode cX12_readName 7 = .ok (.invokevirtual 193, 3) := by decide +kernel
theorem dX12_readName_10 : decode cX12_readName 10 = .ok (.return_, 1) := by decide +kernel
theorem dX12_readName_11 : decode cX12_readName 11 = .ok (.aload_n 0, 1) := by decide +kernel
theorem dX12_readName_12 : decode cX12_readName 12 = .ok (.dup, 1) := by decide +kernel
theorem dX12_readName_13 : decode cX12_readName 13 = .ok (.getfield 184, 3) := by decide +kernel
theorem dX12_readName_16 : decode cX12_readName 16 = .ok (.iconst 1, 1) := by decide +kernel
theorem dX12_readName_17 : decode cX12_readName 17 = .ok (.iadd, 1) := by decide +kernel
theorem dX12_readName_18 : decode cX12_readName 18 = .ok (.putfield 184, 3) := by decide +kernel
theorem dX12_readName_21 : decode cX12_readName 21 = .ok (.aload_n 0, 1) := by decide +kernel
theorem dX12_readName_22 : decode cX12_readName 22 = .ok (.invokevirtual 206, 3) := by decide +kernel
theorem dX12_readName_25 : decode cX12_readName 25 = .ok (.ifCond .ne 11, 3) := by decide +kernel
theorem dX12_readName_28 : decode cX12_readName 28 = .ok (.aload_n 0, 1) := by decide +kernel
theorem dX12_readName_29 : decode cX12_readName 29 = .ok (.iconst 1, 1) := by decide +kernel
theorem dX12_readName_30 : decode cX12_readName 30 = .ok (.invokevirtual 193, 3) := by decide +kernel
theorem dX12_readName_33 : decode cX12_readName 33 = .ok (.goto 36, 3) := by decide +kernel
theorem dX12_readName_36 : decode cX12_readName 36 = .ok (.aload_n 0, 1) := by decide +kernel
theorem dX12_readName_37 : decode cX12_readName 37 = .ok (.bipush 8, 2) := by decide +kernel
theorem dX12_readName_39 : decode cX12_readName 39 = .ok (.aload_n 0, 1) := by decide +kernel
theorem dX12_readName_40 : decode cX12_readName 40 = .ok (.iconst 0, 1) := by decide +kernel
theorem dX12_readName_41 : decode cX12_readName 41 = .ok (.invokevirtual 225, 3) := by decide +kernel
theorem dX12_readName_44 : decode cX12_readName 44 = .ok (.invokevirtual 210, 3) := by decide +kernel
theorem dX12_readName_47 : decode cX12_readName 47 = .ok (.ifCond .ge 17, 3) := by decide +kernel
theorem dX12_readName_50 : decode cX12_readName 50 = .ok (.aload_n 0, 1) := by decide +kernel
theorem dX12_readName_51 : decode cX12_readName 51 = .ok (.bipush 12, 2) := by decide +kernel
theorem dX12_readName_53 : decode cX12_readName 53 = .ok (.aload_n 0, 1) := by decide +kernel
theorem dX12_readName_54 : decode cX12_readName 54 = .ok (.iconst 1, 1) := by decide +kernel
theorem dX12_readName_55 : decode cX12_readName 55 = .ok (.invokevirtual 225, 3) := by decide +kernel
theorem dX12_readName_58 : decode cX12_readName 58 = .ok (.invokevirtual 210, 3) := by decide +kernel
theorem dX12_readName_61 : decode cX12_readName 61 = .ok (.ifCond .lt 8, 3) := by decide +kernel
theorem dX12_readName_64 : decode cX12_readName 64 = .ok (.aload_n 0, 1) := by decide +kernel
theorem dX12_readName_65 : decode cX12_readName 65 = .ok (.iconst 3, 1) := by decide +kernel
theorem dX12_readName_66 : decode cX12_readName 66 = .ok (.invokevirtual 193, 3) := by decide +kernel
theorem dX12_readName_69 : decode cX12_readName 69 = .ok (.aload_n 0, 1) := by decide +kernel
theorem dX12_readName_70 : decode cX12_readName 70 = .ok (.getfield 187, 3) := by decide +kernel
theorem dX12_readName_73 : decode cX12_readName 73 = .ok (.ifCond .ne 33, 3) := by decide +kernel
theorem dX12_readName_76 : decode cX12_readName 76 = .ok (.aload_n 0, 1) := by decide +kernel
theorem dX12_readName_77 : decode cX12_readName 77 = .ok (.getfield 81, 3) := by decide +kernel
theorem dX12_readName_80 : decode cX12_readName 80 = .ok (.bipush 8, 2) := by decide +kernel
theorem dX12_readName_82 : decode cX12_readName 82 = .ok (.iload_n 1, 1) := by decide +kernel
theorem dX12_readName_83 : decode cX12_readName 83 = .ok (.iadd, 1) := by decide +kernel
theorem dX12_readName_84 : decode cX12_readName 84 = .ok (.iload_n 2, 1) := by decide +kernel
theorem dX12_readName_85 : decode cX12_readName 85 = .ok (.iadd, 1) := by decide +kernel
theorem dX12_readName_86 : decode cX12_readName 86 = .ok (.aload_n 0, 1) := by decide +kernel
theorem dX12_readName_87 : decode cX12_readName 87 = .ok (.getfield 30, 3) := by decide +kernel
theorem dX12_readName_90 : decode cX12_readName 90 = .ok (.aload_n 0, 1) := by decide +kernel
theorem dX12_readName_91 : decode cX12_readName 91 = .ok (.getfield 184, 3) := by decide +kernel
theorem dX12_readName_94 : decode cX12_readName 94 = .ok (.laload, 1) := by decide +kernel
theorem dX12_readName_95 : decode cX12_readName 95 = .ok (.lastore, 1) := by decide +kernel
theorem dX12_readName_96 : decode cX12_readName 96 = .ok (.aload_n 0, 1) := by decide +kernel
theorem dX12_readName_97 : decode cX12_readName 97 = .ok (.dup, 1) := by decide +kernel
theorem dX12_readName_98 : decode cX12_readName 98 = .ok (.getfield 184, 3) := by decide +kernel
theorem dX12_readName_101 : decode cX12_readName 101 = .ok (.iconst 1, 1) := by decide +kernel
theorem dX12_readName_102 : decode cX12_readName 102 = .ok (.iadd, 1) := by decide +kernel
theorem dX12_readName_103 : decode cX12_readName 103 = .ok (.putfield 184, 3) := by decide +kernel
theorem dX12_readName_106 : decode cX12_readName 106 = .ok (.return_, 1) := by decide +kernel
theorem dX12_readLine_0 : decode cX12_readLine 0 = .ok (.aload_n 0, 1) := by decide +kernel
theorem dX12_readLine_1 : decode cX12_readLine 1 = .ok (.iconst 0, 1) := by decide +kernel
theorem dX12_readLine_2 : decode cX12_readLine 2 = .ok (.invokevirtual 196, 3) := by decide +kernel
theorem dX12_readLine_5 : decode cX12_readLine 5 = .ok (.ifCond .eq 10, 3) := by decide +kernel
theorem dX12_readLine_8 : decode cX12_readLine 8 = .ok (.aload_n 0, 1) := by decide +kernel
theorem dX12_readLine_9 : decode cX12_readLine 9 = .ok (.invokevirtual 228, 3) := by decide +kernel
theorem dX12_readLine_12 : decode cX12_readLine 12 = .ok (.goto 83, 3) := by decide +kernel
theorem dX12_readLine_15 : decode cX12_readLine 15 = .ok (.aload_n 0, 1) := by decide +kernel
theorem dX12_readLine_16 : decode cX12_readLine 16 = .ok (.iconst 1, 1) := by decide +kernel
theorem dX12_readLine_17 : decode cX12_readLine 17 = .ok (.invokevirtual 196, 3) := by decide +kernel
theorem dX12_readLine_20 : decode cX12_readLine 20 = .ok (.ifCond .eq 10, 3) := by decide +kernel
theorem dX12_readLine_23 : decode cX12_readLine 23 = .ok (.aload_n 0, 1) := by decide +kernel
theorem dX12_readLine_24 : decode cX12_readLine 24 = .ok (.invokevirtual 231, 3) := by decide +kernel
theorem dX12_readLine_27 : decode cX12_readLine 27 = .ok (.goto 68, 3) := by decide +kernel
theorem dX12_readLine_30 : decode cX12_readLine 30 = .ok (.aload_n 0, 1) := by decide +kernel
theorem dX12_readLine_31 : decode cX12_readLine 31 = .ok (.iconst 2, 1) := by decide +kernel
theorem dX12_readLine_32 : decode cX12_readLine 32 = .ok (.invokevirtual 196, 3) := by decide +kernel
theorem dX12_readLine_35 : decode cX12_readLine 35 = .ok (.ifCond .ne 11, 3) := by decide +kernel
theorem dX12_readLine_38 : decode cX12_readLine 38 = .ok (.aload_n 0, 1) := by decide +kernel
theorem dX12_readLine_39 : decode cX12_readLine 39 = .ok (.iconst 1, 1) := by decide +kernel
theorem dX12_readLine_40 : decode cX12_readLine 40 = .ok (.invokevirtual 193, 3) := by decide +kernel
theorem dX12_readLine_43 : decode cX12_readLine 43 = .ok (.goto 52, 3) := by decide +kernel
theorem dX12_readLine_46 : decode cX12_readLine 46 = .ok (.aload_n 0, 1) := by decide +kernel
theorem dX12_readLine_47 : decode cX12_readLine 47 = .ok (.iconst 2, 1) := by decide +kernel
theorem dX12_readLine_48 : decode cX12_readLine 48 = .ok (.invokevirtual 225, 3) := by decide +kernel
theorem dX12_readLine_51 : decode cX12_readLine 51 = .ok (.ifCond .lt 11, 3) := by decide +kernel
theorem dX12_readLine_54 : decode cX12_readLine 54 = .ok (.aload_n 0, 1) := by decide +kernel
theorem dX12_readLine_55 : decode cX12_readLine 55 = .ok (.iconst 3, 1) := by decide +kernel
theorem dX12_readLine_56 : decode cX12_readLine 56 = .ok (.invokevirtual 193, 3) := by decide +kernel
theorem dX12_readLine_59 : decode cX12_readLine 59 = .ok (.goto 36, 3) := by decide +kernel
theorem dX12_readLine_62 : decode cX12_readLine 62 = .ok (.aload_n 0, 1) := by decide +kernel
theorem dX12_readLine_63 : decode cX12_readLine 63 = .ok (.dup, 1) := by decide +kernel
theorem dX12_readLine_64 : decode cX12_readLine 64 = .ok (.getfield 184, 3) := by decide +kernel
theorem dX12_readLine_67 : decode cX12_readLine 67 = .ok (.iconst 1, 1) := by decide +kernel
theorem dX12_readLine_68 : decode cX12_readLine 68 = .ok (.iadd, 1) := by decide +kernel
theorem dX12_readLine_69 : decode cX12_readLine 69 = .ok (.putfield 184, 3) := by decide +kernel
theorem dX12_readLine_72 : decode cX12_readLine 72 = .ok (.aload_n 0, 1) := by decide +kernel
theorem dX12_readLine_73 : decode cX12_readLine 73 = .ok (.getfield 75, 3) := by decide +kernel
theorem dX12_readLine_76 : decode cX12_readLine 76 = .ok (.sipush 142, 3) := by decide +kernel
theorem dX12_readLine_79 : decode cX12_readLine 79 = .ok (.aload_n 0, 1) := by decide +kernel
theorem dX12_readLine_80 : decode cX12_readLine 80 = .ok (.getfield 216, 3) := by decide +kernel
theorem dX12_readLine_83 : decode cX12_readLine 83 = .ok (.iastore, 1) := by decide +kernel
theorem dX12_readLine_84 : decode cX12_readLine 84 = .ok (.aload_n 0, 1) := by decide +kernel
theorem dX12_readLine_85 : decode cX12_readLine 85 = .ok (.iconst 0, 1) := by decide +kernel
theorem dX12_readLine_86 : decode cX12_readLine 86 = .ok (.invokevirtual 234, 3) := by decide +kernel
theorem dX12_readLine_89 : decode cX12_readLine 89 = .ok (.aload_n 0, 1) := by decide +kernel
theorem dX12_readLine_90 : decode cX12_readLine 90 = .ok (.iconst 0, 1) := by decide +kernel
theorem dX12_readLine_91 : decode cX12_readLine 91 = .ok (.iconst 0, 1) := by decide +kernel
theorem dX12_readLine_92 : decode cX12_readLine 92 = .ok (.invokevirtual 237, 3) := by decide +kernel
theorem dX12_readLine_95 : decode cX12_readLine 95 = .ok (.return_, 1) := by decide +kernel
theorem dX12_readRow_0 : decode cX12_readRow 0 = .ok (.aload_n 0, 1) := by decide +kernel
theorem dX12_readRow_1 : decode cX12_readRow 1 = .ok (.iconst 0, 1) := by decide +kernel
theorem dX12_readRow_2 : decode cX12_readRow 2 = .ok (.invokevirtual 225, 3) := by decide +kernel
theorem dX12_readRow_5 : decode cX12_readRow 5 = .ok (.istore_n 1, 1) := by decide +kernel
theorem dX12_readRow_6 : decode cX12_readRow 6 = .ok (.aload_n 0, 1) := by decide +kernel
theorem dX12_readRow_7 : decode cX12_readRow 7 = .ok (.iconst 0, 1) := by decide +kernel
theorem dX12_readRow_8 : decode cX12_readRow 8 = .ok (.iload_n 1, 1) := by decide +kernel
theorem dX12_readRow_9 : decode cX12_readRow 9 = .ok (.invokevirtual 241, 3) := by decide +kernel
theorem dX12_readRow_12 : decode cX12_readRow 12 = .ok (.aload_n 0, 1) := by decide +kernel
theorem dX12_readRow_13 : decode cX12_readRow 13 = .ok (.bipush 8, 2) := by decide +kernel
theorem dX12_readRow_15 : decode cX12_readRow 15 = .ok (.iconst 4, 1) := by decide +kernel
theorem dX12_readRow_16 : decode cX12_readRow 16 = .ok (.invokevirtual 244, 3) := by decide +kernel
theorem dX12_readRow_19 : decode cX12_readRow 19 = .ok (.istore_n 2, 1) := by decide +kernel
theorem dX12_readRow_20 : decode cX12_readRow 20 = .ok (.sipush 143, 3) := by decide +kernel
theorem dX12_readRow_23 : decode cX12_readRow 23 = .ok (.bipush 22, 2) := by decide +kernel
theorem dX12_readRow_25 : decode cX12_readRow 25 = .ok (.iload_n 1, 1) := by decide +kernel
theorem dX12_readRow_26 : decode cX12_readRow 26 = .ok (.imul, 1) := by decide +kernel
theorem dX12_readRow_27 : decode cX12_readRow 27 = .ok (.iadd, 1) := by decide +kernel
theorem dX12_readRow_28 : decode cX12_readRow 28 = .ok (.istore_n 3, 1) := by decide +kernel
theorem dX12_readRow_29 : decode cX12_readRow 29 = .ok (.iconst 0, 1) := by decide +kernel
theorem dX12_readRow_30 : decode cX12_readRow 30 = .ok (.istore 4, 2) := by decide +kernel
theorem dX12_readRow_32 : decode cX12_readRow 32 = .ok (.aload_n 0, 1) := by decide +kernel
theorem dX12_readRow_33 : decode cX12_readRow 33 = .ok (.iconst 0, 1) := by decide +kernel
theorem dX12_readRow_34 : decode cX12_readRow 34 = .ok (.bipush 99, 2) := by decide +kernel
theorem dX12_readRow_36 : decode cX12_readRow 36 = .ok (.invokevirtual 247, 3) := by decide +kernel
theorem dX12_readRow_39 : decode cX12_readRow 39 = .ok (.istore 5, 2) := by decide +kernel
theorem dX12_readRow_41 : decode cX12_readRow 41 = .ok (.aload_n 0, 1) := by decide +kernel
theorem dX12_readRow_42 : decode cX12_readRow 42 = .ok (.getfield 187, 3) := by decide +kernel
theorem dX12_readRow_45 : decode cX12_readRow 45 = .ok (.ifCond .ne 25, 3) := by decide +kernel
theorem dX12_readRow_48 : decode cX12_readRow 48 = .ok (.iload 4, 2) := by decide +kernel
theorem dX12_readRow_50 : decode cX12_readRow 50 = .ok (.bipush 20, 2) := by decide +kernel
theorem dX12_readRow_52 : decode cX12_readRow 52 = .ok (.if_icmp .ne 18, 3) := by decide +kernel
theorem dX12_readRow_55 : decode cX12_readRow 55 = .ok (.aload_n 0, 1) := by decide +kernel
theorem dX12_readRow_56 : decode cX12_readRow 56 = .ok (.dup, 1) := by decide +kernel
theorem dX12_readRow_57 : decode cX12_readRow 57 = .ok (.getfield 184, 3) := by decide +kernel
theorem dX12_readRow_60 : decode cX12_readRow 60 = .ok (.iconst 1, 1) := by decide +kernel
theorem dX12_readRow_61 : decode cX12_readRow 61 = .ok (.isub, 1) := by decide +kernel
theorem dX12_readRow_62 : decode cX12_readRow 62 = .ok (.putfield 184, 3) := by decide +kernel
theorem dX12_readRow_65 : decode cX12_readRow 65 = .ok (.aload_n 0, 1) := by decide +kernel
theorem dX12_readRow_66 : decode cX12_readRow 66 = .ok (.iconst 5, 1) := by decide +kernel
theorem dX12_readRow_67 : decode cX12_readRow 67 = .ok (.invokevirtual 193, 3) := by decide +kernel
theorem dX12_readRow_70 : decode cX12_readRow 70 = .ok (.aload_n 0, 1) := by decide +kernel
theorem dX12_readRow_71 : decode cX12_readRow 71 = .ok (.getfield 187, 3) := by decide +kernel
theorem dX12_readRow_74 : decode cX12_readRow 74 = .ok (.ifCond .ne 19, 3) := by decide +kernel
theorem dX12_readRow_77 : decode cX12_readRow 77 = .ok (.aload_n 0, 1) := by decide +kernel
theorem dX12_readRow_78 : decode cX12_readRow 78 = .ok (.getfield 75, 3) := by decide +kernel
theorem dX12_readRow_81 : decode cX12_readRow 81 = .ok (.iload_n 3, 1) := by decide +kernel
theorem dX12_readRow_82 : decode cX12_readRow 82 = .ok (.iconst 2, 1) := by decide +kernel
theorem dX12_readRow_83 : decode cX12_readRow 83 = .ok (.iadd, 1) := by decide +kernel
theorem dX12_readRow_84 : decode cX12_readRow 84 = .ok (.iload 4, 2) := by decide +kernel
theorem dX12_readRow_86 : decode cX12_readRow 86 = .ok (.iadd, 1) := by decide +kernel
theorem dX12_readRow_87 : decode cX12_readRow 87 = .ok (.iload 5, 2) := by decide +kernel
theorem dX12_readRow_89 : decode cX12_readRow 89 = .ok (.iastore, 1) := by decide +kernel
theorem dX12_readRow_90 : decode cX12_readRow 90 = .ok (.iinc 4 1, 3) := by decide +kernel
theorem dX12_readRow_93 : decode cX12_readRow 93 = .ok (.aload_n 0, 1) := by decide +kernel
theorem dX12_readRow_94 : decode cX12_readRow 94 = .ok (.getfield 187, 3) := by decide +kernel
theorem dX12_readRow_97 : decode cX12_readRow 97 = .ok (.ifCond .ne 16, 3) := by decide +kernel
theorem dX12_readRow_100 : decode cX12_readRow 100 = .ok (.aload_n 0, 1) := by decide +kernel
theorem dX12_readRow_101 : decode cX12_readRow 101 = .ok (.getfield 24, 3) := by decide +kernel
theorem dX12_readRow_104 : decode cX12_readRow 104 = .ok (.aload_n 0, 1) := by decide +kernel
theorem dX12_readRow_105 : decode cX12_readRow 105 = .ok (.getfield 184, 3) := by decide +kernel
theorem dX12_readRow_108 : decode cX12_readRow 108 = .ok (.iaload, 1) := by decide +kernel
theorem dX12_readRow_109 : decode cX12_readRow 109 = .ok (.iconst 2, 1) := by decide +kernel
theorem dX12_readRow_110 : decode cX12_readRow 110 = .ok (.if_icmp .eq (-78), 3) := by decide +kernel
theorem dX12_readRow_113 : decode cX12_readRow 113 = .ok (.aload_n 0, 1) := by decide +kernel
theorem dX12_readRow_114 : decode cX12_readRow 114 = .ok (.getfield 187, 3) := by decide +kernel
theorem dX12_readRow_117 : decode cX12_readRow 117 = .ok (.ifCond .ne 32, 3) := by decide +kernel
theorem dX12_readRow_120 : decode cX12_readRow 120 = .ok (.aload_n 0, 1) := by decide +kernel
theorem dX12_readRow_121 : decode cX12_readRow 121 = .ok (.getfield 75, 3) := by decide +kernel
theorem dX12_readRow_124 : decode cX12_readRow 124 = .ok (.iload_n 3, 1) := by decide +kernel
theorem dX12_readRow_125 : decode cX12_readRow 125 = .ok (.iload_n 2, 1) := by decide +kernel
theorem dX12_readRow_126 : decode cX12_readRow 126 = .ok (.iastore, 1) := by decide +kernel
theorem dX12_readRow_127 : decode cX12_readRow 127 = .ok (.aload_n 0, 1) := by decide +kernel
theorem dX12_readRow_128 : decode cX12_readRow 128 = .ok (.getfield 75, 3) := by decide +kernel
theorem dX12_readRow_131 : decode cX12_readRow 131 = .ok (.iload_n 3, 1) := by decide +kernel
theorem dX12_readRow_132 : decode cX12_readRow 132 = .ok (.iconst 1, 1) := by decide +kernel
theorem dX12_readRow_133 : decode cX12_readRow 133 = .ok (.iadd, 1) := by decide +kernel
theorem dX12_readRow_134 : decode cX12_readRow 134 = .ok (.iload 4, 2) := by decide +kernel
theorem dX12_readRow_136 : decode cX12_readRow 136 = .ok (.iastore, 1) := by decide +kernel
theorem dX12_readRow_137 : decode cX12_readRow 137 = .ok (.aload_n 0, 1) := by decide +kernel
theorem dX12_readRow_138 : decode cX12_readRow 138 = .ok (.getfield 75, 3) := by decide +kernel
theorem dX12_readRow_141 : decode cX12_readRow 141 = .ok (.sipush 140, 3) := by decide +kernel
theorem dX12_readRow_144 : decode cX12_readRow 144 = .ok (.dup2, 1) := by decide +kernel
theorem dX12_readRow_145 : decode cX12_readRow 145 = .ok (.iaload, 1) := by decide +kernel
theorem dX12_readRow_146 : decode cX12_readRow 146 = .ok (.iconst 1, 1) := by decide +kernel
theorem dX12_readRow_147 : decode cX12_readRow 147 = .ok (.iadd, 1) := by decide +kernel
theorem dX12_readRow_148 : decode cX12_readRow 148 = .ok (.iastore, 1) := by decide +kernel
theorem dX12_readRow_149 : decode cX12_readRow 149 = .ok (.return_, 1) := by decide +kernel
theorem dX12_readBraid_0 : decode cX12_readBraid 0 = .ok (.aload_n 0, 1) := by decide +kernel
theorem dX12_readBraid_1 : decode cX12_readBraid 1 = .ok (.iconst 1, 1) := by decide +kernel
theorem dX12_readBraid_2 : decode cX12_readBraid 2 = .ok (.invokevirtual 225, 3) := by decide +kernel
theorem dX12_readBraid_5 : decode cX12_readBraid 5 = .ok (.istore_n 1, 1) := by decide +kernel
theorem dX12_readBraid_6 : decode cX12_readBraid 6 = .ok (.aload_n 0, 1) := by decide +kernel
theorem dX12_readBraid_7 : decode cX12_readBraid 7 = .ok (.iconst 4, 1) := by decide +kernel
theorem dX12_readBraid_8 : decode cX12_readBraid 8 = .ok (.iload_n 1, 1) := by decide +kernel
theorem dX12_readBraid_9 : decode cX12_readBraid 9 = .ok (.invokevirtual 241, 3) := by decide +kernel
theorem dX12_readBraid_12 : decode cX12_readBraid 12 = .ok (.sipush 231, 3) := by decide +kernel
theorem dX12_readBraid_15 : decode cX12_readBraid 15 = .ok (.bipush 11, 2) := by decide +kernel
theorem dX12_readBraid_17 : decode cX12_readBraid 17 = .ok (.iload_n 1, 1) := by decide +kernel
theorem dX12_readBraid_18 : decode cX12_readBraid 18 = .ok (.imul, 1) := by decide +kernel
theorem dX12_readBraid_19 : decode cX12_readBraid 19 = .ok (.iadd, 1) := by decide +kernel
theorem dX12_readBraid_20 : decode cX12_readBraid 20 = .ok (.istore_n 2, 1) := by decide +kernel
theorem dX12_readBraid_21 : decode cX12_readBraid 21 = .ok (.iconst 0, 1) := by decide +kernel
theorem dX12_readBraid_22 : decode cX12_readBraid 22 = .ok (.istore_n 3, 1) := by decide +kernel
theorem dX12_readBraid_23 : decode cX12_readBraid 23 = .ok (.iconst 0, 1) := by decide +kernel
theorem dX12_readBraid_24 : decode cX12_readBraid 24 = .ok (.istore 4, 2) := by decide +kernel
theorem dX12_readBraid_26 : decode cX12_readBraid 26 = .ok (.aload_n 0, 1) := by decide +kernel
theorem dX12_readBraid_27 : decode cX12_readBraid 27 = .ok (.iconst 0, 1) := by decide +kernel
theorem dX12_readBraid_28 : decode cX12_readBraid 28 = .ok (.bipush 9, 2) := by decide +kernel
theorem dX12_readBraid_30 : decode cX12_readBraid 30 = .ok (.invokevirtual 247, 3) := by decide +kernel
theorem dX12_readBraid_33 : decode cX12_readBraid 33 = .ok (.istore 5, 2) := by decide +kernel
theorem dX12_readBraid_35 : decode cX12_readBraid 35 = .ok (.aload_n 0, 1) := by decide +kernel
theorem dX12_readBraid_36 : decode cX12_readBraid 36 = .ok (.getfield 187, 3) := by decide +kernel
theorem dX12_readBraid_39 : decode cX12_readBraid 39 = .ok (.ifCond .ne 28, 3) := by decide +kernel
theorem dX12_readBraid_42 : decode cX12_readBraid 42 = .ok (.iload_n 3, 1) := by decide +kernel
theorem dX12_readBraid_43 : decode cX12_readBraid 43 = .ok (.iload 5, 2) := by decide +kernel
theorem dX12_readBraid_45 : decode cX12_readBraid 45 = .ok (.ishr, 1) := by decide +kernel
theorem dX12_readBraid_46 : decode cX12_readBraid 46 = .ok (.iconst 1, 1) := by decide +kernel
theorem dX12_readBraid_47 : decode cX12_readBraid 47 = .ok (.iand, 1) := by decide +kernel
theorem dX12_readBraid_48 : decode cX12_readBraid 48 = .ok (.iconst 1, 1) := by decide +kernel
theorem dX12_readBraid_49 : decode cX12_readBraid 49 = .ok (.if_icmp .ne 18, 3) := by decide +kernel
theorem dX12_readBraid_52 : decode cX12_readBraid 52 = .ok (.aload_n 0, 1) := by decide +kernel
theorem dX12_readBraid_53 : decode cX12_readBraid 53 = .ok (.dup, 1) := by decide +kernel
theorem dX12_readBraid_54 : decode cX12_readBraid 54 = .ok (.getfield 184, 3) := by decide +kernel
theorem dX12_readBraid_57 : decode cX12_readBraid 57 = .ok (.iconst 1, 1) := by decide +kernel
theorem dX12_readBraid_58 : decode cX12_readBraid 58 = .ok (.isub, 1) := by decide +kernel
theorem dX12_readBraid_59 : decode cX12_readBraid 59 = .ok (.putfield 184, 3) := by decide +kernel
theorem dX12_readBraid_62 : decode cX12_readBraid 62 = .ok (.aload_n 0, 1) := by decide +kernel
theorem dX12_readBraid_63 : decode cX12_readBraid 63 = .ok (.iconst 3, 1) := by decide +kernel
theorem dX12_readBraid_64 : decode cX12_readBraid 64 = .ok (.invokevirtual 193, 3) := by decide +kernel
theorem dX12_readBraid_67 : decode cX12_readBraid 67 = .ok (.aload_n 0, 1) := by decide +kernel
theorem dX12_readBraid_68 : decode cX12_readBraid 68 = .ok (.getfield 187, 3) := by decide +kernel
theorem dX12_readBraid_71 : decode cX12_readBraid 71 = .ok (.ifCond .ne 26, 3) := by decide +kernel
theorem dX12_readBraid_74 : decode cX12_readBraid 74 = .ok (.aload_n 0, 1) := by decide +kernel
theorem dX12_readBraid_75 : decode cX12_readBraid 75 = .ok (.getfield 75, 3) := by decide +kernel
theorem dX12_readBraid_78 : decode cX12_readBraid 78 = .ok (.iload_n 2, 1) := by decide +kernel
theorem dX12_readBraid_79 : decode cX12_readBraid 79 = .ok (.iconst 1, 1) := by decide +kernel
theorem dX12_readBraid_80 : decode cX12_readBraid 80 = .ok (.iadd, 1) := by decide +kernel
theorem dX12_readBraid_81 : decode cX12_readBraid 81 = .ok (.iload 4, 2) := by decide +kernel
theorem dX12_readBraid_83 : decode cX12_readBraid 83 = .ok (.iadd, 1) := by decide +kernel
theorem dX12_readBraid_84 : decode cX12_readBraid 84 = .ok (.iload 5, 2) := by decide +kernel
theorem dX12_readBraid_86 : decode cX12_readBraid 86 = .ok (.iastore, 1) := by decide +kernel
theorem dX12_readBraid_87 : decode cX12_readBraid 87 = .ok (.iload_n 3, 1) := by decide +kernel
theorem dX12_readBraid_88 : decode cX12_readBraid 88 = .ok (.iconst 1, 1) := by decide +kernel
theorem dX12_readBraid_89 : decode cX12_readBraid 89 = .ok (.iload 5, 2) := by decide +kernel
theorem dX12_readBraid_91 : decode cX12_readBraid 91 = .ok (.ishl, 1) := by decide +kernel
theorem dX12_readBraid_92 : decode cX12_readBraid 92 = .ok (.ior, 1) := by decide +kernel
theorem dX12_readBraid_93 : decode cX12_readBraid 93 = .ok (.istore_n 3, 1) := by decide +kernel
theorem dX12_readBraid_94 : decode cX12_readBraid 94 = .ok (.iinc 4 1, 3) := by decide +kernel
theorem dX12_readBraid_97 : decode cX12_readBraid 97 = .ok (.aload_n 0, 1) := by decide +kernel
theorem dX12_readBraid_98 : decode cX12_readBraid 98 = .ok (.getfield 187, 3) := by decide +kernel
theorem dX12_readBraid_101 : decode cX12_readBraid 101 = .ok (.ifCond .ne 16, 3) := by decide +kernel
theorem dX12_readBraid_104 : decode cX12_readBraid 104 = .ok (.aload_n 0, 1) := by decide +kernel
theorem dX12_readBraid_105 : decode cX12_readBraid 105 = .ok (.getfield 24, 3) := by decide +kernel
theorem dX12_readBraid_108 : decode cX12_readBraid 108 = .ok (.aload_n 0, 1) := by decide +kernel
theorem dX12_readBraid_109 : decode cX12_readBraid 109 = .ok (.getfield 184, 3) := by decide +kernel
theorem dX12_readBraid_112 : decode cX12_readBraid 112 = .ok (.iaload, 1) := by decide +kernel
theorem dX12_readBraid_113 : decode cX12_readBraid 113 = .ok (.iconst 2, 1) := by decide +kernel
theorem dX12_readBraid_114 : decode cX12_readBraid 114 = .ok (.if_icmp .eq (-88), 3) := by decide +kernel
theorem dX12_readBraid_117 : decode cX12_readBraid 117 = .ok (.aload_n 0, 1) := by decide +kernel
theorem dX12_readBraid_118 : decode cX12_readBraid 118 = .ok (.bipush 59, 2) := by decide +kernel
theorem dX12_readBraid_120 : decode cX12_readBraid 120 = .ok (.invokevirtual 190, 3) := by decide +kernel
theorem dX12_readBraid_123 : decode cX12_readBraid 123 = .ok (.ifCond .eq 18, 3) := by decide +kernel
theorem dX12_readBraid_126 : decode cX12_readBraid 126 = .ok (.iload_n 3, 1) := by decide +kernel
theorem dX12_readBraid_127 : decode cX12_readBraid 127 = .ok (.iconst 1, 1) := by decide +kernel
theorem dX12_readBraid_128 : decode cX12_readBraid 128 = .ok (.iload 4, 2) := by decide +kernel
theorem dX12_readBraid_130 : decode cX12_readBraid 130 = .ok (.ishl, 1) := by decide +kernel
theorem dX12_readBraid_131 : decode cX12_readBraid 131 = .ok (.iconst 1, 1) := by decide +kernel
theorem dX12_readBraid_132 : decode cX12_readBraid 132 = .ok (.isub, 1) := by decide +kernel
theorem dX12_readBraid_133 : decode cX12_readBraid 133 = .ok (.if_icmp .eq 8, 3) := by decide +kernel
theorem dX12_readBraid_136 : decode cX12_readBraid 136 = .ok (.aload_n 0, 1) := by decide +kernel
theorem dX12_readBraid_137 : decode cX12_readBraid 137 = .ok (.iconst 5, 1) := by decide +kernel
theorem dX12_readBraid_138 : decode cX12_readBraid 138 = .ok (.invokevirtual 193, 3) := by decide +kernel
theorem dX12_readBraid_141 : decode cX12_readBraid 141 = .ok (.aload_n 0, 1) := by decide +kernel
theorem dX12_readBraid_142 : decode cX12_readBraid 142 = .ok (.getfield 187, 3) := by decide +kernel
theorem dX12_readBraid_145 : decode cX12_readBraid 145 = .ok (.ifCond .ne 23, 3) := by decide +kernel
theorem dX12_readBraid_148 : decode cX12_readBraid 148 = .ok (.aload_n 0, 1) := by decide +kernel
theorem dX12_readBraid_149 : decode cX12_readBraid 149 = .ok (.getfield 75, 3) := by decide +kernel
theorem dX12_readBraid_152 : decode cX12_readBraid 152 = .ok (.iload_n 2, 1) := by decide +kernel
theorem dX12_readBraid_153 : decode cX12_readBraid 153 = .ok (.iload 4, 2) := by decide +kernel
theorem dX12_readBraid_155 : decode cX12_readBraid 155 = .ok (.iastore, 1) := by decide +kernel
theorem dX12_readBraid_156 : decode cX12_readBraid 156 = .ok (.aload_n 0, 1) := by decide +kernel
theorem dX12_readBraid_157 : decode cX12_readBraid 157 = .ok (.getfield 75, 3) := by decide +kernel
theorem dX12_readBraid_160 : decode cX12_readBraid 160 = .ok (.sipush 141, 3) := by decide +kernel
theorem dX12_readBraid_163 : decode cX12_readBraid 163 = .ok (.dup2, 1) := by decide +kernel
theorem dX12_readBraid_164 : decode cX12_readBraid 164 = .ok (.iaload, 1) := by decide +kernel
theorem dX12_readBraid_165 : decode cX12_readBraid 165 = .ok (.iconst 1, 1) := by decide +kernel
theorem dX12_readBraid_166 : decode cX12_readBraid 166 = .ok (.iadd, 1) := by decide +kernel
theorem dX12_readBraid_167 : decode cX12_readBraid 167 = .ok (.iastore, 1) := by decide +kernel
theorem dX12_readBraid_168 : decode cX12_readBraid 168 = .ok (.return_, 1) := by decide +kernel
theorem dX12_work_0 : decode cX12_work 0 = .ok (.aload_n 0, 1) := by decide +kernel
theorem dX12_work_1 : decode cX12_work 1 = .ok (.iconst 0, 1) := by decide +kernel
theorem dX12_work_2 : decode cX12_work 2 = .ok (.putfield 1, 3) := by decide +kernel
theorem dX12_work_5 : decode cX12_work 5 = .ok (.aload_n 0, 1) := by decide +kernel
theorem dX12_work_6 : decode cX12_work 6 = .ok (.invokevirtual 213, 3) := by decide +kernel
theorem dX12_work_9 : decode cX12_work 9 = .ok (.iconst 0, 1) := by decide +kernel
theorem dX12_work_10 : decode cX12_work 10 = .ok (.istore_n 1, 1) := by decide +kernel
theorem dX12_work_11 : decode cX12_work 11 = .ok (.aload_n 0, 1) := by decide +kernel
theorem dX12_work_12 : decode cX12_work 12 = .ok (.getfield 187, 3) := by decide +kernel
theorem dX12_work_15 : decode cX12_work 15 = .ok (.ifCond .ne 179, 3) := by decide +kernel
theorem dX12_work_18 : decode cX12_work 18 = .ok (.aload_n 0, 1) := by decide +kernel
theorem dX12_work_19 : decode cX12_work 19 = .ok (.getfield 24, 3) := by decide +kernel
theorem dX12_work_22 : decode cX12_work 22 = .ok (.aload_n 0, 1) := by decide +kernel
theorem dX12_work_23 : decode cX12_work 23 = .ok (.getfield 184, 3) := by decide +kernel
theorem dX12_work_26 : decode cX12_work 26 = .ok (.iaload, 1) := by decide +kernel
theorem dX12_work_27 : decode cX12_work 27 = .ok (.ifCond .eq 167, 3) := by decide +kernel
theorem dX12_work_30 : decode cX12_work 30 = .ok (.aload_n 0, 1) := by decide +kernel
theorem dX12_work_31 : decode cX12_work 31 = .ok (.iconst 3, 1) := by decide +kernel
theorem dX12_work_32 : decode cX12_work 32 = .ok (.iconst 5, 1) := by decide +kernel
theorem dX12_work_33 : decode cX12_work 33 = .ok (.invokevirtual 202, 3) := by decide +kernel
theorem dX12_work_36 : decode cX12_work 36 = .ok (.istore_n 2, 1) := by decide +kernel
theorem dX12_work_37 : decode cX12_work 37 = .ok (.iload_n 2, 1) := by decide +kernel
theorem dX12_work_38 : decode cX12_work 38 = .ok (.ifCond .ge 11, 3) := by decide +kernel
theorem dX12_work_41 : decode cX12_work 41 = .ok (.aload_n 0, 1) := by decide +kernel
theorem dX12_work_42 : decode cX12_work 42 = .ok (.iconst 1, 1) := by decide +kernel
theorem dX12_work_43 : decode cX12_work 43 = .ok (.invokevirtual 193, 3) := by decide +kernel
theorem dX12_work_46 : decode cX12_work 46 = .ok (.goto 139, 3) := by decide +kernel
theorem dX12_work_49 : decode cX12_work 49 = .ok (.iload_n 1, 1) := by decide +kernel
theorem dX12_work_50 : decode cX12_work 50 = .ok (.bipush 30, 2) := by decide +kernel
theorem dX12_work_52 : decode cX12_work 52 = .ok (.if_icmp .ne 11, 3) := by decide +kernel
theorem dX12_work_55 : decode cX12_work 55 = .ok (.aload_n 0, 1) := by decide +kernel
theorem dX12_work_56 : decode cX12_work 56 = .ok (.iconst 5, 1) := by decide +kernel
theorem dX12_work_57 : decode cX12_work 57 = .ok (.invokevirtual 193, 3) := by decide +kernel
theorem dX12_work_60 : decode cX12_work 60 = .ok (.goto 125, 3) := by decide +kernel
theorem dX12_work_63 : decode cX12_work 63 = .ok (.aload_n 0, 1) := by decide +kernel
theorem dX12_work_64 : decode cX12_work 64 = .ok (.dup, 1) := by decide +kernel
theorem dX12_work_65 : decode cX12_work 65 = .ok (.getfield 184, 3) := by decide +kernel
theorem dX12_work_68 : decode cX12_work 68 = .ok (.iconst 1, 1) := by decide +kernel
theorem dX12_work_69 : decode cX12_work 69 = .ok (.iadd, 1) := by decide +kernel
theorem dX12_work_70 : decode cX12_work 70 = .ok (.putfield 184, 3) := by decide +kernel
theorem dX12_work_73 : decode cX12_work 73 = .ok (.bipush 95, 2) := by decide +kernel
theorem dX12_work_75 : decode cX12_work 75 = .ok (.iconst 3, 1) := by decide +kernel
theorem dX12_work_76 : decode cX12_work 76 = .ok (.iload_n 1, 1) := by decide +kernel
theorem dX12_work_77 : decode cX12_work 77 = .ok (.imul, 1) := by decide +kernel
theorem dX12_work_78 : decode cX12_work 78 = .ok (.iadd, 1) := by decide +kernel
theorem dX12_work_79 : decode cX12_work 79 = .ok (.istore_n 3, 1) := by decide +kernel
theorem dX12_work_80 : decode cX12_work 80 = .ok (.aload_n 0, 1) := by decide +kernel
theorem dX12_work_81 : decode cX12_work 81 = .ok (.getfield 84, 3) := by decide +kernel
theorem dX12_work_84 : decode cX12_work 84 = .ok (.iload_n 3, 1) := by decide +kernel
theorem dX12_work_85 : decode cX12_work 85 = .ok (.iload_n 2, 1) := by decide +kernel
theorem dX12_work_86 : decode cX12_work 86 = .ok (.iastore, 1) := by decide +kernel
theorem dX12_work_87 : decode cX12_work 87 = .ok (.aload_n 0, 1) := by decide +kernel
theorem dX12_work_88 : decode cX12_work 88 = .ok (.getfield 84, 3) := by decide +kernel
theorem dX12_work_91 : decode cX12_work 91 = .ok (.iload_n 3, 1) := by decide +kernel
theorem dX12_work_92 : decode cX12_work 92 = .ok (.iconst 1, 1) := by decide +kernel
theorem dX12_work_93 : decode cX12_work 93 = .ok (.iadd, 1) := by decide +kernel
theorem dX12_work_94 : decode cX12_work 94 = .ok (.iload_n 2, 1) := by decide +kernel
theorem dX12_work_95 : decode cX12_work 95 = .ok (.iconst 3, 1) := by decide +kernel
theorem dX12_work_96 : decode cX12_work 96 = .ok (.if_icmp .ge 17, 3) := by decide +kernel
theorem dX12_work_99 : decode cX12_work 99 = .ok (.aload_n 0, 1) := by decide +kernel
theorem dX12_work_100 : decode cX12_work 100 = .ok (.iconst 0, 1) := by decide +kernel
theorem dX12_work_101 : decode cX12_work 101 = .ok (.aload_n 0, 1) := by decide +kernel
theorem dX12_work_102 : decode cX12_work 102 = .ok (.getfield 75, 3) := by decide +kernel
theorem dX12_work_105 : decode cX12_work 105 = .ok (.iconst 0, 1) := by decide +kernel
theorem dX12_work_106 : decode cX12_work 106 = .ok (.iaload, 1) := by decide +kernel
theorem dX12_work_107 : decode cX12_work 107 = .ok (.invokevirtual 250, 3) := by decide +kernel
theorem dX12_work_110 : decode cX12_work 110 = .ok (.goto 14, 3) := by decide +kernel
theorem dX12_work_113 : decode cX12_work 113 = .ok (.aload_n 0, 1) := by decide +kernel
theorem dX12_work_114 : decode cX12_work 114 = .ok (.iconst 4, 1) := by decide +kernel
theorem dX12_work_115 : decode cX12_work 115 = .ok (.aload_n 0, 1) := by decide +kernel
theorem dX12_work_116 : decode cX12_work 116 = .ok (.getfield 75, 3) := by decide +kernel
theorem dX12_work_119 : decode cX12_work 119 = .ok (.iconst 1, 1) := by decide +kernel
theorem dX12_work_120 : decode cX12_work 120 = .ok (.iaload, 1) := by decide +kernel
theorem dX12_work_121 : decode cX12_work 121 = .ok (.invokevirtual 250, 3) := by decide +kernel
theorem dX12_work_124 : decode cX12_work 124 = .ok (.iastore, 1) := by decide +kernel
theorem dX12_work_125 : decode cX12_work 125 = .ok (.aload_n 0, 1) := by decide +kernel
theorem dX12_work_126 : decode cX12_work 126 = .ok (.getfield 84, 3) := by decide +kernel
theorem dX12_work_129 : decode cX12_work 129 = .ok (.iload_n 3, 1) := by decide +kernel
theorem dX12_work_130 : decode cX12_work 130 = .ok (.iconst 2, 1) := by decide +kernel
theorem dX12_work_131 : decode cX12_work 131 = .ok (.iadd, 1) := by decide +kernel
theorem dX12_work_132 : decode cX12_work 132 = .ok (.iload_n 2, 1) := by decide +kernel
theorem dX12_work_133 : decode cX12_work 133 = .ok (.ifCond .ne 13, 3) := by decide +kernel
theorem dX12_work_136 : decode cX12_work 136 = .ok (.aload_n 0, 1) := by decide +kernel
theorem dX12_work_137 : decode cX12_work 137 = .ok (.iconst 0, 1) := by decide +kernel
theorem dX12_work_138 : decode cX12_work 138 = .ok (.bipush 99, 2) := by decide +kernel
theorem dX12_work_140 : decode cX12_work 140 = .ok (.invokevirtual 247, 3) := by decide +kernel
theorem dX12_work_143 : decode cX12_work 143 = .ok (.goto 38, 3) := by decide +kernel
theorem dX12_work_146 : decode cX12_work 146 = .ok (.iload_n 2, 1) := by decide +kernel
theorem dX12_work_147 : decode cX12_work 147 = .ok (.iconst 3, 1) := by decide +kernel
theorem dX12_work_148 : decode cX12_work 148 = .ok (.if_icmp .ne 13, 3) := by decide +kernel
theorem dX12_work_151 : decode cX12_work 151 = .ok (.aload_n 0, 1) := by decide +kernel
theorem dX12_work_152 : decode cX12_work 152 = .ok (.iconst 0, 1) := by decide +kernel
theorem dX12_work_153 : decode cX12_work 153 = .ok (.bipush 8, 2) := by decide +kernel
theorem dX12_work_155 : decode cX12_work 155 = .ok (.invokevirtual 247, 3) := by decide +kernel
theorem dX12_work_158 : decode cX12_work 158 = .ok (.goto 23, 3) := by decide +kernel
theorem dX12_work_161 : decode cX12_work 161 = .ok (.iload_n 2, 1) := by decide +kernel
theorem dX12_work_162 : decode cX12_work 162 = .ok (.iconst 4, 1) := by decide +kernel
theorem dX12_work_163 : decode cX12_work 163 = .ok (.if_icmp .ne 17, 3) := by decide +kernel
theorem dX12_work_166 : decode cX12_work 166 = .ok (.aload_n 0, 1) := by decide +kernel
theorem dX12_work_167 : decode cX12_work 167 = .ok (.iconst 4, 1) := by decide +kernel
theorem dX12_work_168 : decode cX12_work 168 = .ok (.aload_n 0, 1) := by decide +kernel
theorem dX12_work_169 : decode cX12_work 169 = .ok (.getfield 75, 3) := by decide +kernel
theorem dX12_work_172 : decode cX12_work 172 = .ok (.iconst 1, 1) := by decide +kernel
theorem dX12_work_173 : decode cX12_work 173 = .ok (.iaload, 1) := by decide +kernel
theorem dX12_work_174 : decode cX12_work 174 = .ok (.invokevirtual 250, 3) := by decide +kernel
theorem dX12_work_177 : decode cX12_work 177 = .ok (.goto 4, 3) := by decide +kernel
theorem dX12_work_180 : decode cX12_work 180 = .ok (.iconst 0, 1) := by decide +kernel
theorem dX12_work_181 : decode cX12_work 181 = .ok (.iastore, 1) := by decide +kernel
theorem dX12_work_182 : decode cX12_work 182 = .ok (.iinc 1 1, 3) := by decide +kernel
theorem dX12_work_185 : decode cX12_work 185 = .ok (.aload_n 0, 1) := by decide +kernel
theorem dX12_work_186 : decode cX12_work 186 = .ok (.bipush 59, 2) := by decide +kernel
theorem dX12_work_188 : decode cX12_work 188 = .ok (.invokevirtual 222, 3) := by decide +kernel
theorem dX12_work_191 : decode cX12_work 191 = .ok (.goto (-180), 3) := by decide +kernel
theorem dX12_work_194 : decode cX12_work 194 = .ok (.aload_n 0, 1) := by decide +kernel
theorem dX12_work_195 : decode cX12_work 195 = .ok (.getfield 187, 3) := by decide +kernel
theorem dX12_work_198 : decode cX12_work 198 = .ok (.ifCond .le 8, 3) := by decide +kernel
theorem dX12_work_201 : decode cX12_work 201 = .ok (.aload_n 0, 1) := by decide +kernel
theorem dX12_work_202 : decode cX12_work 202 = .ok (.getfield 187, 3) := by decide +kernel
theorem dX12_work_205 : decode cX12_work 205 = .ok (.ireturn, 1) := by decide +kernel
theorem dX12_work_206 : decode cX12_work 206 = .ok (.aload_n 0, 1) := by decide +kernel
theorem dX12_work_207 : decode cX12_work 207 = .ok (.getfield 84, 3) := by decide +kernel
theorem dX12_work_210 : decode cX12_work 210 = .ok (.iconst 0, 1) := by decide +kernel
theorem dX12_work_211 : decode cX12_work 211 = .ok (.iload_n 1, 1) := by decide +kernel
theorem dX12_work_212 : decode cX12_work 212 = .ok (.iastore, 1) := by decide +kernel
theorem dX12_work_213 : decode cX12_work 213 = .ok (.iconst 0, 1) := by decide +kernel
theorem dX12_work_214 : decode cX12_work 214 = .ok (.istore_n 2, 1) := by decide +kernel
theorem dX12_work_215 : decode cX12_work 215 = .ok (.iload_n 2, 1) := by decide +kernel
theorem dX12_work_216 : decode cX12_work 216 = .ok (.iconst 3, 1) := by decide +kernel
theorem dX12_work_217 : decode cX12_work 217 = .ok (.iload_n 1, 1) := by decide +kernel
theorem dX12_work_218 : decode cX12_work 218 = .ok (.imul, 1) := by decide +kernel
theorem dX12_work_219 : decode cX12_work 219 = .ok (.if_icmp .ge 26, 3) := by decide +kernel
theorem dX12_work_222 : decode cX12_work 222 = .ok (.aload_n 0, 1) := by decide +kernel
theorem dX12_work_223 : decode cX12_work 223 = .ok (.getfield 84, 3) := by decide +kernel
theorem dX12_work_226 : decode cX12_work 226 = .ok (.iconst 1, 1) := by decide +kernel
theorem dX12_work_227 : decode cX12_work 227 = .ok (.iload_n 2, 1) := by decide +kernel
theorem dX12_work_228 : decode cX12_work 228 = .ok (.iadd, 1) := by decide +kernel
theorem dX12_work_229 : decode cX12_work 229 = .ok (.aload_n 0, 1) := by decide +kernel
theorem dX12_work_230 : decode cX12_work 230 = .ok (.getfield 84, 3) := by decide +kernel
theorem dX12_work_233 : decode cX12_work 233 = .ok (.bipush 95, 2) := by decide +kernel
theorem dX12_work_235 : decode cX12_work 235 = .ok (.iload_n 2, 1) := by decide +kernel
theorem dX12_work_236 : decode cX12_work 236 = .ok (.iadd, 1) := by decide +kernel
theorem dX12_work_237 : decode cX12_work 237 = .ok (.iaload, 1) := by decide +kernel
theorem dX12_work_238 : decode cX12_work 238 = .ok (.iastore, 1) := by decide +kernel
theorem dX12_work_239 : decode cX12_work 239 = .ok (.iinc 2 1, 3) := by decide +kernel
theorem dX12_work_242 : decode cX12_work 242 = .ok (.goto (-27), 3) := by decide +kernel
theorem dX12_work_245 : decode cX12_work 245 = .ok (.iconst 0, 1) := by decide +kernel
theorem dX12_work_246 : decode cX12_work 246 = .ok (.ireturn, 1) := by decide +kernel
theorem dX12_emit_0 : decode cX12_emit 0 = .ok (.aload_n 0, 1) := by decide +kernel
theorem dX12_emit_1 : decode cX12_emit 1 = .ok (.getfield 78, 3) := by decide +kernel
theorem dX12_emit_4 : decode cX12_emit 4 = .ok (.sipush 1100, 3) := by decide +kernel
theorem dX12_emit_7 : decode cX12_emit 7 = .ok (.aload_n 0, 1) := by decide +kernel
theorem dX12_emit_8 : decode cX12_emit 8 = .ok (.getfield 216, 3) := by decide +kernel
theorem dX12_emit_11 : decode cX12_emit 11 = .ok (.iadd, 1) := by decide +kernel
theorem dX12_emit_12 : decode cX12_emit 12 = .ok (.iload_n 1, 1) := by decide +kernel
theorem dX12_emit_13 : decode cX12_emit 13 = .ok (.bipush 16, 2) := by decide +kernel
theorem dX12_emit_15 : decode cX12_emit 15 = .ok (.iload_n 2, 1) := by decide +kernel
theorem dX12_emit_16 : decode cX12_emit 16 = .ok (.imul, 1) := by decide +kernel
theorem dX12_emit_17 : decode cX12_emit 17 = .ok (.iadd, 1) := by decide +kernel
theorem dX12_emit_18 : decode cX12_emit 18 = .ok (.iastore, 1) := by decide +kernel
theorem dX12_emit_19 : decode cX12_emit 19 = .ok (.aload_n 0, 1) := by decide +kernel
theorem dX12_emit_20 : decode cX12_emit 20 = .ok (.dup, 1) := by decide +kernel
theorem dX12_emit_21 : decode cX12_emit 21 = .ok (.getfield 216, 3) := by decide +kernel
theorem dX12_emit_24 : decode cX12_emit 24 = .ok (.iconst 1, 1) := by decide +kernel
theorem dX12_emit_25 : decode cX12_emit 25 = .ok (.iadd, 1) := by decide +kernel
theorem dX12_emit_26 : decode cX12_emit 26 = .ok (.putfield 216, 3) := by decide +kernel
theorem dX12_emit_29 : decode cX12_emit 29 = .ok (.return_, 1) := by decide +kernel
theorem dX12_allOf_0 : decode cX12_allOf 0 = .ok (.aload_n 0, 1) := by decide +kernel
theorem dX12_allOf_1 : decode cX12_allOf 1 = .ok (.iload_n 1, 1) := by decide +kernel
theorem dX12_allOf_2 : decode cX12_allOf 2 = .ok (.invokevirtual 253, 3) := by decide +kernel
theorem dX12_allOf_5 : decode cX12_allOf 5 = .ok (.aload_n 0, 1) := by decide +kernel
theorem dX12_allOf_6 : decode cX12_allOf 6 = .ok (.bipush 13, 2) := by decide +kernel
theorem dX12_allOf_8 : decode cX12_allOf 8 = .ok (.invokevirtual 196, 3) := by decide +kernel
theorem dX12_allOf_11 : decode cX12_allOf 11 = .ok (.ifCond .ne 12, 3) := by decide +kernel
theorem dX12_allOf_14 : decode cX12_allOf 14 = .ok (.aload_n 0, 1) := by decide +kernel
theorem dX12_allOf_15 : decode cX12_allOf 15 = .ok (.bipush 14, 2) := by decide +kernel
theorem dX12_allOf_17 : decode cX12_allOf 17 = .ok (.invokevirtual 196, 3) := by decide +kernel
theorem dX12_allOf_20 : decode cX12_allOf 20 = .ok (.ifCond .eq 44, 3) := by decide +kernel
theorem dX12_allOf_23 : decode cX12_allOf 23 = .ok (.aload_n 0, 1) := by decide +kernel
theorem dX12_allOf_24 : decode cX12_allOf 24 = .ok (.bipush 13, 2) := by decide +kernel
theorem dX12_allOf_26 : decode cX12_allOf 26 = .ok (.invokevirtual 196, 3) := by decide +kernel
theorem dX12_allOf_29 : decode cX12_allOf 29 = .ok (.istore_n 2, 1) := by decide +kernel
theorem dX12_allOf_30 : decode cX12_allOf 30 = .ok (.aload_n 0, 1) := by decide +kernel
theorem dX12_allOf_31 : decode cX12_allOf 31 = .ok (.dup, 1) := by decide +kernel
theorem dX12_allOf_32 : decode cX12_allOf 32 = .ok (.getfield 184, 3) := by decide +kernel
theorem dX12_allOf_35 : decode cX12_allOf 35 = .ok (.iconst 1, 1) := by decide +kernel
theorem dX12_allOf_36 : decode cX12_allOf 36 = .ok (.iadd, 1) := by decide +kernel
theorem dX12_allOf_37 : decode cX12_allOf 37 = .ok (.putfield 184, 3) := by decide +kernel
theorem dX12_allOf_40 : decode cX12_allOf 40 = .ok (.aload_n 0, 1) := by decide +kernel
theorem dX12_allOf_41 : decode cX12_allOf 41 = .ok (.iload_n 1, 1) := by decide +kernel
theorem dX12_allOf_42 : decode cX12_allOf 42 = .ok (.invokevirtual 253, 3) := by decide +kernel
theorem dX12_allOf_45 : decode cX12_allOf 45 = .ok (.aload_n 0, 1) := by decide +kernel
theorem dX12_allOf_46 : decode cX12_allOf 46 = .ok (.iload_n 2, 1) := by decide +kernel
theorem dX12_allOf_47 : decode cX12_allOf 47 = .ok (.ifCond .eq 8, 3) := by decide +kernel
theorem dX12_allOf_50 : decode cX12_allOf 50 = .ok (.bipush 9, 2) := by decide +kernel
theorem dX12_allOf_52 : decode cX12_allOf 52 = .ok (.goto 5, 3) := by decide +kernel
theorem dX12_allOf_55 : decode cX12_allOf 55 = .ok (.bipush 10, 2) := by decide +kernel
theorem dX12_allOf_57 : decode cX12_allOf 57 = .ok (.iconst 0, 1) := by decide +kernel
theorem dX12_allOf_58 : decode cX12_allOf 58 = .ok (.invokevirtual 237, 3) := by decide +kernel
theorem dX12_allOf_61 : decode cX12_allOf 61 = .ok (.goto (-56), 3) := by decide +kernel
theorem dX12_allOf_64 : decode cX12_allOf 64 = .ok (.return_, 1) := by decide +kernel
theorem dX12_test_0 : decode cX12_test 0 = .ok (.aload_n 0, 1) := by decide +kernel
theorem dX12_test_1 : decode cX12_test 1 = .ok (.iload_n 1, 1) := by decide +kernel
theorem dX12_test_2 : decode cX12_test 2 = .ok (.invokevirtual 256, 3) := by decide +kernel
theorem dX12_test_5 : decode cX12_test 5 = .ok (.aload_n 0, 1) := by decide +kernel
theorem dX12_test_6 : decode cX12_test 6 = .ok (.bipush 60, 2) := by decide +kernel
theorem dX12_test_8 : decode cX12_test 8 = .ok (.invokevirtual 190, 3) := by decide +kernel
theorem dX12_test_11 : decode cX12_test 11 = .ok (.istore_n 2, 1) := by decide +kernel
theorem dX12_test_12 : decode cX12_test 12 = .ok (.aload_n 0, 1) := by decide +kernel
theorem dX12_test_13 : decode cX12_test 13 = .ok (.bipush 60, 2) := by decide +kernel
theorem dX12_test_15 : decode cX12_test 15 = .ok (.invokevirtual 259, 3) := by decide +kernel
theorem dX12_test_18 : decode cX12_test 18 = .ok (.ifCond .ne 12, 3) := by decide +kernel
theorem dX12_test_21 : decode cX12_test 21 = .ok (.aload_n 0, 1) := by decide +kernel
theorem dX12_test_22 : decode cX12_test 22 = .ok (.bipush 61, 2) := by decide +kernel
theorem dX12_test_24 : decode cX12_test 24 = .ok (.invokevirtual 259, 3) := by decide +kernel
theorem dX12_test_27 : decode cX12_test 27 = .ok (.ifCond .eq 24, 3) := by decide +kernel
theorem dX12_test_30 : decode cX12_test 30 = .ok (.aload_n 0, 1) := by decide +kernel
theorem dX12_test_31 : decode cX12_test 31 = .ok (.iload_n 1, 1) := by decide +kernel
theorem dX12_test_32 : decode cX12_test 32 = .ok (.invokevirtual 256, 3) := by decide +kernel
theorem dX12_test_35 : decode cX12_test 35 = .ok (.aload_n 0, 1) := by decide +kernel
theorem dX12_test_36 : decode cX12_test 36 = .ok (.iload_n 2, 1) := by decide +kernel
theorem dX12_test_37 : decode cX12_test 37 = .ok (.ifCond .eq 8, 3) := by decide +kernel
theorem dX12_test_40 : decode cX12_test 40 = .ok (.bipush 7, 2) := by decide +kernel
theorem dX12_test_42 : decode cX12_test 42 = .ok (.goto 5, 3) := by decide +kernel
theorem dX12_test_45 : decode cX12_test 45 = .ok (.bipush 8, 2) := by decide +kernel
theorem dX12_test_47 : decode cX12_test 47 = .ok (.iconst 0, 1) := by decide +kernel
theorem dX12_test_48 : decode cX12_test 48 = .ok (.invokevirtual 237, 3) := by decide +kernel
theorem dX12_test_51 : decode cX12_test 51 = .ok (.return_, 1) := by decide +kernel
theorem dX12_sums_0 : decode cX12_sums 0 = .ok (.aload_n 0, 1) := by decide +kernel
theorem dX12_sums_1 : decode cX12_sums 1 = .ok (.iload_n 1, 1) := by decide +kernel
theorem dX12_sums_2 : decode cX12_sums 2 = .ok (.invokevirtual 262, 3) := by decide +kernel
theorem dX12_sums_5 : decode cX12_sums 5 = .ok (.aload_n 0, 1) := by decide +kernel
theorem dX12_sums_6 : decode cX12_sums 6 = .ok (.bipush 43, 2) := by decide +kernel
theorem dX12_sums_8 : decode cX12_sums 8 = .ok (.invokevirtual 190, 3) := by decide +kernel
theorem dX12_sums_11 : decode cX12_sums 11 = .ok (.ifCond .ne 12, 3) := by decide +kernel
theorem dX12_sums_14 : decode cX12_sums 14 = .ok (.aload_n 0, 1) := by decide +kernel
theorem dX12_sums_15 : decode cX12_sums 15 = .ok (.bipush 45, 2) := by decide +kernel
theorem dX12_sums_17 : decode cX12_sums 17 = .ok (.invokevirtual 190, 3) := by decide +kernel
theorem dX12_sums_20 : decode cX12_sums 20 = .ok (.ifCond .eq 42, 3) := by decide +kernel
theorem dX12_sums_23 : decode cX12_sums 23 = .ok (.aload_n 0, 1) := by decide +kernel
theorem dX12_sums_24 : decode cX12_sums 24 = .ok (.bipush 43, 2) := by decide +kernel
theorem dX12_sums_26 : decode cX12_sums 26 = .ok (.invokevirtual 190, 3) := by decide +kernel
theorem dX12_sums_29 : decode cX12_sums 29 = .ok (.istore_n 2, 1) := by decide +kernel
theorem dX12_sums_30 : decode cX12_sums 30 = .ok (.aload_n 0, 1) := by decide +kernel
theorem dX12_sums_31 : decode cX12_sums 31 = .ok (.dup, 1) := by decide +kernel
theorem dX12_sums_32 : decode cX12_sums 32 = .ok (.getfield 184, 3) := by decide +kernel
theorem dX12_sums_35 : decode cX12_sums 35 = .ok (.iconst 1, 1) := by decide +kernel
theorem dX12_sums_36 : decode cX12_sums 36 = .ok (.iadd, 1) := by decide +kernel
theorem dX12_sums_37 : decode cX12_sums 37 = .ok (.putfield 184, 3) := by decide +kernel
theorem dX12_sums_40 : decode cX12_sums 40 = .ok (.aload_n 0, 1) := by decide +kernel
theorem dX12_sums_41 : decode cX12_sums 41 = .ok (.iload_n 1, 1) := by decide +kernel
theorem dX12_sums_42 : decode cX12_sums 42 = .ok (.invokevirtual 262, 3) := by decide +kernel
theorem dX12_sums_45 : decode cX12_sums 45 = .ok (.aload_n 0, 1) := by decide +kernel
theorem dX12_sums_46 : decode cX12_sums 46 = .ok (.iload_n 2, 1) := by decide +kernel
theorem dX12_sums_47 : decode cX12_sums 47 = .ok (.ifCond .eq 7, 3) := by decide +kernel
theorem dX12_sums_50 : decode cX12_sums 50 = .ok (.iconst 4, 1) := by decide +kernel
theorem dX12_sums_51 : decode cX12_sums 51 = .ok (.goto 4, 3) := by decide +kernel
theorem dX12_sums_54 : decode cX12_sums 54 = .ok (.iconst 5, 1) := by decide +kernel
theorem dX12_sums_55 : decode cX12_sums 55 = .ok (.iconst 0, 1) := by decide +kernel
theorem dX12_sums_56 : decode cX12_sums 56 = .ok (.invokevirtual 237, 3) := by decide +kernel
theorem dX12_sums_59 : decode cX12_sums 59 = .ok (.goto (-54), 3) := by decide +kernel
theorem dX12_sums_62 : decode cX12_sums 62 = .ok (.return_, 1) := by decide +kernel
theorem dX12_products_0 : decode cX12_products 0 = .ok (.aload_n 0, 1) := by decide +kernel
theorem dX12_products_1 : decode cX12_products 1 = .ok (.iload_n 1, 1) := by decide +kernel
theorem dX12_products_2 : decode cX12_products 2 = .ok (.invokevirtual 265, 3) := by decide +kernel
theorem dX12_products_5 : decode cX12_products 5 = .ok (.aload_n 0, 1) := by decide +kernel
theorem dX12_products_6 : decode cX12_products 6 = .ok (.bipush 42, 2) := by decide +kernel
theorem dX12_products_8 : decode cX12_products 8 = .ok (.invokevirtual 259, 3) := by decide +kernel
theorem dX12_products_11 : decode cX12_products 11 = .ok (.ifCond .eq 18, 3) := by decide +kernel
theorem dX12_products_14 : decode cX12_products 14 = .ok (.aload_n 0, 1) := by decide +kernel
theorem dX12_products_15 : decode cX12_products 15 = .ok (.iload_n 1, 1) := by decide +kernel
theorem dX12_products_16 : decode cX12_products 16 = .ok (.invokevirtual 265, 3) := by decide +kernel
theorem dX12_products_19 : decode cX12_products 19 = .ok (.aload_n 0, 1) := by decide +kernel
theorem dX12_products_20 : decode cX12_products 20 = .ok (.bipush 6, 2) := by decide +kernel
theorem dX12_products_22 : decode cX12_products 22 = .ok (.iconst 0, 1) := by decide +kernel
theorem dX12_products_23 : decode cX12_products 23 = .ok (.invokevirtual 237, 3) := by decide +kernel
theorem dX12_products_26 : decode cX12_products 26 = .ok (.goto (-21), 3) := by decide +kernel
theorem dX12_products_29 : decode cX12_products 29 = .ok (.return_, 1) := by decide +kernel
theorem dX12_takePart_0 : decode cX12_takePart 0 = .ok (.aload_n 0, 1) := by decide +kernel
theorem dX12_takePart_1 : decode cX12_takePart 1 = .ok (.getfield 187, 3) := by decide +kernel
theorem dX12_takePart_4 : decode cX12_takePart 4 = .ok (.ifCond .le 4, 3) := by decide +kernel
theorem dX12_takePart_7 : decode cX12_takePart 7 = .ok (.return_, 1) := by decide +kernel
theorem dX12_takePart_8 : decode cX12_takePart 8 = .ok (.aload_n 0, 1) := by decide +kernel
theorem dX12_takePart_9 : decode cX12_takePart 9 = .ok (.getfield 24, 3) := by decide +kernel
theorem dX12_takePart_12 : decode cX12_takePart 12 = .ok (.aload_n 0, 1) := by decide +kernel
theorem dX12_takePart_13 : decode cX12_takePart 13 = .ok (.getfield 184, 3) := by decide +kernel
theorem dX12_takePart_16 : decode cX12_takePart 16 = .ok (.iaload, 1) := by decide +kernel
theorem dX12_takePart_17 : decode cX12_takePart 17 = .ok (.iconst 2, 1) := by decide +kernel
theorem dX12_takePart_18 : decode cX12_takePart 18 = .ok (.if_icmp .ne 7, 3) := by decide +kernel
theorem dX12_takePart_21 : decode cX12_takePart 21 = .ok (.iconst 1, 1) := by decide +kernel
theorem dX12_takePart_22 : decode cX12_takePart 22 = .ok (.goto 4, 3) := by decide +kernel
theorem dX12_takePart_25 : decode cX12_takePart 25 = .ok (.iconst 0, 1) := by decide +kernel
theorem dX12_takePart_26 : decode cX12_takePart 26 = .ok (.istore_n 2, 1) := by decide +kernel
theorem dX12_takePart_27 : decode cX12_takePart 27 = .ok (.aload_n 0, 1) := by decide +kernel
theorem dX12_takePart_28 : decode cX12_takePart 28 = .ok (.bipush 15, 2) := by decide +kernel
theorem dX12_takePart_30 : decode cX12_takePart 30 = .ok (.iconst 4, 1) := by decide +kernel
theorem dX12_takePart_31 : decode cX12_takePart 31 = .ok (.invokevirtual 202, 3) := by decide +kernel
theorem dX12_takePart_34 : decode cX12_takePart 34 = .ok (.istore_n 3, 1) := by decide +kernel
theorem dX12_takePart_35 : decode cX12_takePart 35 = .ok (.iload_n 3, 1) := by decide +kernel
theorem dX12_takePart_36 : decode cX12_takePart 36 = .ok (.ifCond .ge 33, 3) := by decide +kernel
theorem dX12_takePart_39 : decode cX12_takePart 39 = .ok (.iload_n 2, 1) := by decide +kernel
theorem dX12_takePart_40 : decode cX12_takePart 40 = .ok (.ifCond .ne 29, 3) := by decide +kernel
theorem dX12_takePart_43 : decode cX12_takePart 43 = .ok (.aload_n 0, 1) := by decide +kernel
theorem dX12_takePart_44 : decode cX12_takePart 44 = .ok (.bipush 40, 2) := by decide +kernel
theorem dX12_takePart_46 : decode cX12_takePart 46 = .ok (.invokevirtual 190, 3) := by decide +kernel
theorem dX12_takePart_49 : decode cX12_takePart 49 = .ok (.ifCond .ne 20, 3) := by decide +kernel
theorem dX12_takePart_52 : decode cX12_takePart 52 = .ok (.aload_n 0, 1) := by decide +kernel
theorem dX12_takePart_53 : decode cX12_takePart 53 = .ok (.bipush 12, 2) := by decide +kernel
theorem dX12_takePart_55 : decode cX12_takePart 55 = .ok (.invokevirtual 196, 3) := by decide +kernel
theorem dX12_takePart_58 : decode cX12_takePart 58 = .ok (.ifCond .ne 11, 3) := by decide +kernel
theorem dX12_takePart_61 : decode cX12_takePart 61 = .ok (.aload_n 0, 1) := by decide +kernel
theorem dX12_takePart_62 : decode cX12_takePart 62 = .ok (.iconst 1, 1) := by decide +kernel
theorem dX12_takePart_63 : decode cX12_takePart 63 = .ok (.invokevirtual 193, 3) := by decide +kernel
theorem dX12_takePart_66 : decode cX12_takePart 66 = .ok (.goto 13, 3) := by decide +kernel
theorem dX12_takePart_69 : decode cX12_takePart 69 = .ok (.iload_n 1, 1) := by decide +kernel
theorem dX12_takePart_70 : decode cX12_takePart 70 = .ok (.iconst 5, 1) := by decide +kernel
theorem dX12_takePart_71 : decode cX12_takePart 71 = .ok (.if_icmp .ne 8, 3) := by decide +kernel
theorem dX12_takePart_74 : decode cX12_takePart 74 = .ok (.aload_n 0, 1) := by decide +kernel
theorem dX12_takePart_75 : decode cX12_takePart 75 = .ok (.iconst 5, 1) := by decide +kernel
theorem dX12_takePart_76 : decode cX12_takePart 76 = .ok (.invokevirtual 193, 3) := by decide +kernel
theorem dX12_takePart_79 : decode cX12_takePart 79 = .ok (.aload_n 0, 1) := by decide +kernel
theorem dX12_takePart_80 : decode cX12_takePart 80 = .ok (.getfield 187, 3) := by decide +kernel
theorem dX12_takePart_83 : decode cX12_takePart 83 = .ok (.ifCond .le 4, 3) := by decide +kernel
theorem dX12_takePart_86 : decode cX12_takePart 86 = .ok (.return_, 1) := by decide +kernel
theorem dX12_takePart_87 : decode cX12_takePart 87 = .ok (.aload_n 0, 1) := by decide +kernel
theorem dX12_takePart_88 : decode cX12_takePart 88 = .ok (.bipush 12, 2) := by decide +kernel
theorem dX12_takePart_90 : decode cX12_takePart 90 = .ok (.invokevirtual 199, 3) := by decide +kernel
theorem dX12_takePart_93 : decode cX12_takePart 93 = .ok (.ifCond .eq 19, 3) := by decide +kernel
theorem dX12_takePart_96 : decode cX12_takePart 96 = .ok (.aload_n 0, 1) := by decide +kernel
theorem dX12_takePart_97 : decode cX12_takePart 97 = .ok (.iload_n 1, 1) := by decide +kernel
theorem dX12_takePart_98 : decode cX12_takePart 98 = .ok (.iconst 1, 1) := by decide +kernel
theorem dX12_takePart_99 : decode cX12_takePart 99 = .ok (.iadd, 1) := by decide +kernel
theorem dX12_takePart_100 : decode cX12_takePart 100 = .ok (.invokevirtual 265, 3) := by decide +kernel
theorem dX12_takePart_103 : decode cX12_takePart 103 = .ok (.aload_n 0, 1) := by decide +kernel
theorem dX12_takePart_104 : decode cX12_takePart 104 = .ok (.iconst 3, 1) := by decide +kernel
theorem dX12_takePart_105 : decode cX12_takePart 105 = .ok (.iconst 0, 1) := by decide +kernel
theorem dX12_takePart_106 : decode cX12_takePart 106 = .ok (.invokevirtual 237, 3) := by decide +kernel
theorem dX12_takePart_109 : decode cX12_takePart 109 = .ok (.goto 69, 3) := by decide +kernel
theorem dX12_takePart_112 : decode cX12_takePart 112 = .ok (.aload_n 0, 1) := by decide +kernel
theorem dX12_takePart_113 : decode cX12_takePart 113 = .ok (.bipush 40, 2) := by decide +kernel
theorem dX12_takePart_115 : decode cX12_takePart 115 = .ok (.invokevirtual 259, 3) := by decide +kernel
theorem dX12_takePart_118 : decode cX12_takePart 118 = .ok (.ifCond .eq 19, 3) := by decide +kernel
theorem dX12_takePart_121 : decode cX12_takePart 121 = .ok (.aload_n 0, 1) := by decide +kernel
theorem dX12_takePart_122 : decode cX12_takePart 122 = .ok (.iload_n 1, 1) := by decide +kernel
theorem dX12_takePart_123 : decode cX12_takePart 123 = .ok (.iconst 1, 1) := by decide +kernel
theorem dX12_takePart_124 : decode cX12_takePart 124 = .ok (.iadd, 1) := by decide +kernel
theorem dX12_takePart_125 : decode cX12_takePart 125 = .ok (.invokevirtual 234, 3) := by decide +kernel
theorem dX12_takePart_128 : decode cX12_takePart 128 = .ok (.aload_n 0, 1) := by decide +kernel
theorem dX12_takePart_129 : decode cX12_takePart 129 = .ok (.bipush 41, 2) := by decide +kernel
theorem dX12_takePart_131 : decode cX12_takePart 131 = .ok (.invokevirtual 222, 3) := by decide +kernel
theorem dX12_takePart_134 : decode cX12_takePart 134 = .ok (.goto 44, 3) := by decide +kernel
theorem dX12_takePart_137 : decode cX12_takePart 137 = .ok (.aload_n 0, 1) := by decide +kernel
theorem dX12_takePart_138 : decode cX12_takePart 138 = .ok (.iload_n 2, 1) := by decide +kernel
theorem dX12_takePart_139 : decode cX12_takePart 139 = .ok (.ifCond .eq 7, 3) := by decide +kernel
theorem dX12_takePart_142 : decode cX12_takePart 142 = .ok (.iconst 1, 1) := by decide +kernel
theorem dX12_takePart_143 : decode cX12_takePart 143 = .ok (.goto 4, 3) := by decide +kernel
theorem dX12_takePart_146 : decode cX12_takePart 146 = .ok (.iconst 2, 1) := by decide +kernel
theorem dX12_takePart_147 : decode cX12_takePart 147 = .ok (.iload_n 2, 1) := by decide +kernel
theorem dX12_takePart_148 : decode cX12_takePart 148 = .ok (.ifCond .eq 16, 3) := by decide +kernel
theorem dX12_takePart_151 : decode cX12_takePart 151 = .ok (.aload_n 0, 1) := by decide +kernel
theorem dX12_takePart_152 : decode cX12_takePart 152 = .ok (.getfield 30, 3) := by decide +kernel
theorem dX12_takePart_155 : decode cX12_takePart 155 = .ok (.aload_n 0, 1) := by decide +kernel
theorem dX12_takePart_156 : decode cX12_takePart 156 = .ok (.getfield 184, 3) := by decide +kernel
theorem dX12_takePart_159 : decode cX12_takePart 159 = .ok (.laload, 1) := by decide +kernel
theorem dX12_takePart_160 : decode cX12_takePart 160 = .ok (.l2i, 1) := by decide +kernel
theorem dX12_takePart_161 : decode cX12_takePart 161 = .ok (.goto 4, 3) := by decide +kernel
theorem dX12_takePart_164 : decode cX12_takePart 164 = .ok (.iload_n 3, 1) := by decide +kernel
theorem dX12_takePart_165 : decode cX12_takePart 165 = .ok (.invokevirtual 237, 3) := by decide +kernel
theorem dX12_takePart_168 : decode cX12_takePart 168 = .ok (.aload_n 0, 1) := by decide +kernel
theorem dX12_takePart_169 : decode cX12_takePart 169 = .ok (.dup, 1) := by decide +kernel
theorem dX12_takePart_170 : decode cX12_takePart 170 = .ok (.getfield 184, 3) := by decide +kernel
theorem dX12_takePart_173 : decode cX12_takePart 173 = .ok (.iconst 1, 1) := by decide +kernel
theorem dX12_takePart_174 : decode cX12_takePart 174 = .ok (.iadd, 1) := by decide +kernel
theorem dX12_takePart_175 : decode cX12_takePart 175 = .ok (.putfield 184, 3) := by decide +kernel
theorem dX12_takePart_178 : decode cX12_takePart 178 = .ok (.return_, 1) := by decide +kernel
theorem dX12_worthAt_0 : decode cX12_worthAt 0 = .ok (.iconst 0, 1) := by decide +kernel
theorem dX12_worthAt_1 : decode cX12_worthAt 1 = .ok (.istore_n 2, 1) := by decide +kernel
theorem dX12_worthAt_2 : decode cX12_worthAt 2 = .ok (.iload_n 1, 1) := by decide +kernel
theorem dX12_worthAt_3 : decode cX12_worthAt 3 = .ok (.istore_n 3, 1) := by decide +kernel
theorem dX12_worthAt_4 : decode cX12_worthAt 4 = .ok (.aload_n 0, 1) := by decide +kernel
theorem dX12_worthAt_5 : decode cX12_worthAt 5 = .ok (.getfield 78, 3) := by decide +kernel
theorem dX12_worthAt_8 : decode cX12_worthAt 8 = .ok (.iload_n 3, 1) := by decide +kernel
theorem dX12_worthAt_9 : decode cX12_worthAt 9 = .ok (.iaload, 1) := by decide +kernel
theorem dX12_worthAt_10 : decode cX12_worthAt 10 = .ok (.bipush 16, 2) := by decide +kernel
theorem dX12_worthAt_12 : decode cX12_worthAt 12 = .ok (.irem, 1) := by decide +kernel
theorem dX12_worthAt_13 : decode cX12_worthAt 13 = .ok (.ifCond .eq 139, 3) := by decide +kernel
theorem dX12_worthAt_16 : decode cX12_worthAt 16 = .ok (.aload_n 0, 1) := by decide +kernel
theorem dX12_worthAt_17 : decode cX12_worthAt 17 = .ok (.getfield 78, 3) := by decide +kernel
theorem dX12_worthAt_20 : decode cX12_worthAt 20 = .ok (.iload_n 3, 1) := by decide +kernel
theorem dX12_worthAt_21 : decode cX12_worthAt 21 = .ok (.iaload, 1) := by decide +kernel
theorem dX12_worthAt_22 : decode cX12_worthAt 22 = .ok (.bipush 16, 2) := by decide +kernel
theorem dX12_worthAt_24 : decode cX12_worthAt 24 = .ok (.irem, 1) := by decide +kernel
theorem dX12_worthAt_25 : decode cX12_worthAt 25 = .ok (.istore 4, 2) := by decide +kernel
theorem dX12_worthAt_27 : decode cX12_worthAt 27 = .ok (.iload 4, 2) := by decide +kernel
theorem dX12_worthAt_29 : decode cX12_worthAt 29 = .ok (.iconst 1, 1) := by decide +kernel
theorem dX12_worthAt_30 : decode cX12_worthAt 30 = .ok (.if_icmp .eq 9, 3) := by decide +kernel
theorem dX12_worthAt_33 : decode cX12_worthAt 33 = .ok (.iload 4, 2) := by decide +kernel
theorem dX12_worthAt_35 : decode cX12_worthAt 35 = .ok (.iconst 2, 1) := by decide +kernel
theorem dX12_worthAt_36 : decode cX12_worthAt 36 = .ok (.if_icmp .ne 47, 3) := by decide +kernel
theorem dX12_worthAt_39 : decode cX12_worthAt 39 = .ok (.aload_n 0, 1) := by decide +kernel
theorem dX12_worthAt_40 : decode cX12_worthAt 40 = .ok (.getfield 90, 3) := by decide +kernel
theorem dX12_worthAt_43 : decode cX12_worthAt 43 = .ok (.iload_n 2, 1) := by decide +kernel
theorem dX12_worthAt_44 : decode cX12_worthAt 44 = .ok (.iload 4, 2) := by decide +kernel
theorem dX12_worthAt_46 : decode cX12_worthAt 46 = .ok (.iconst 1, 1) := by decide +kernel
theorem dX12_worthAt_47 : decode cX12_worthAt 47 = .ok (.if_icmp .ne 15, 3) := by decide +kernel
theorem dX12_worthAt_50 : decode cX12_worthAt 50 = .ok (.aload_n 0, 1) := by decide +kernel
theorem dX12_worthAt_51 : decode cX12_worthAt 51 = .ok (.getfield 78, 3) := by decide +kernel
theorem dX12_worthAt_54 : decode cX12_worthAt 54 = .ok (.iload_n 3, 1) := by decide +kernel
theorem dX12_worthAt_55 : decode cX12_worthAt 55 = .ok (.iaload, 1) := by decide +kernel
theorem dX12_worthAt_56 : decode cX12_worthAt 56 = .ok (.bipush 16, 2) := by decide +kernel
theorem dX12_worthAt_58 : decode cX12_worthAt 58 = .ok (.idiv, 1) := by decide +kernel
theorem dX12_worthAt_59 : decode cX12_worthAt 59 = .ok (.goto 17, 3) := by decide +kernel
theorem dX12_worthAt_62 : decode cX12_worthAt 62 = .ok (.aload_n 0, 1) := by decide +kernel
theorem dX12_worthAt_63 : decode cX12_worthAt 63 = .ok (.getfield 87, 3) := by decide +kernel
theorem dX12_worthAt_66 : decode cX12_worthAt 66 = .ok (.aload_n 0, 1) := by decide +kernel
theorem dX12_worthAt_67 : decode cX12_worthAt 67 = .ok (.getfield 78, 3) := by decide +kernel
theorem dX12_worthAt_70 : decode cX12_worthAt 70 = .ok (.iload_n 3, 1) := by decide +kernel
theorem dX12_worthAt_71 : decode cX12_worthAt 71 = .ok (.iaload, 1) := by decide +kernel
theorem dX12_worthAt_72 : decode cX12_worthAt 72 = .ok (.bipush 16, 2) := by decide +kernel
theorem dX12_worthAt_74 : decode cX12_worthAt 74 = .ok (.idiv, 1) := by decide +kernel
theorem dX12_worthAt_75 : decode cX12_worthAt 75 = .ok (.iaload, 1) := by decide +kernel
theorem dX12_worthAt_76 : decode cX12_worthAt 76 = .ok (.iastore, 1) := by decide +kernel
theorem dX12_worthAt_77 : decode cX12_worthAt 77 = .ok (.iinc 2 1, 3) := by decide +kernel
theorem dX12_worthAt_80 : decode cX12_worthAt 80 = .ok (.goto 66, 3) := by decide +kernel
theorem dX12_worthAt_83 : decode cX12_worthAt 83 = .ok (.iload 4, 2) := by decide +kernel
theorem dX12_worthAt_85 : decode cX12_worthAt 85 = .ok (.iconst 3, 1) := by decide +kernel
theorem dX12_worthAt_86 : decode cX12_worthAt 86 = .ok (.if_icmp .ne 30, 3) := by decide +kernel
theorem dX12_worthAt_89 : decode cX12_worthAt 89 = .ok (.aload_n 0, 1) := by decide +kernel
theorem dX12_worthAt_90 : decode cX12_worthAt 90 = .ok (.getfield 90, 3) := by decide +kernel
theorem dX12_worthAt_93 : decode cX12_worthAt 93 = .ok (.iload_n 2, 1) := by decide +kernel
theorem dX12_worthAt_94 : decode cX12_worthAt 94 = .ok (.iconst 1, 1) := by decide +kernel
theorem dX12_worthAt_95 : decode cX12_worthAt 95 = .ok (.isub, 1) := by decide +kernel
theorem dX12_worthAt_96 : decode cX12_worthAt 96 = .ok (.aload_n 0, 1) := by decide +kernel
theorem dX12_worthAt_97 : decode cX12_worthAt 97 = .ok (.getfield 90, 3) := by decide +kernel
theorem dX12_worthAt_100 : decode cX12_worthAt 100 = .ok (.iload_n 2, 1) := by decide +kernel
theorem dX12_worthAt_101 : decode cX12_worthAt 101 = .ok (.iconst 1, 1) := by decide +kernel
theorem dX12_worthAt_102 : decode cX12_worthAt 102 = .ok (.isub, 1) := by decide +kernel
theorem dX12_worthAt_103 : decode cX12_worthAt 103 = .ok (.iaload, 1) := by decide +kernel
theorem dX12_worthAt_104 : decode cX12_worthAt 104 = .ok (.ifCond .ne 7, 3) := by decide +kernel
theorem dX12_worthAt_107 : decode cX12_worthAt 107 = .ok (.iconst 1, 1) := by decide +kernel
theorem dX12_worthAt_108 : decode cX12_worthAt 108 = .ok (.goto 4, 3) := by decide +kernel
theorem dX12_worthAt_111 : decode cX12_worthAt 111 = .ok (.iconst 0, 1) := by decide +kernel
theorem dX12_worthAt_112 : decode cX12_worthAt 112 = .ok (.iastore, 1) := by decide +kernel
theorem dX12_worthAt_113 : decode cX12_worthAt 113 = .ok (.goto 33, 3) := by decide +kernel
theorem dX12_worthAt_116 : decode cX12_worthAt 116 = .ok (.iinc 2 (-1), 3) := by decide +kernel
theorem dX12_worthAt_119 : decode cX12_worthAt 119 = .ok (.aload_n 0, 1) := by decide +kernel
theorem dX12_worthAt_120 : decode cX12_worthAt 120 = .ok (.getfield 90, 3) := by decide +kernel
theorem dX12_worthAt_123 : decode cX12_worthAt 123 = .ok (.iload_n 2, 1) := by decide +kernel
theorem dX12_worthAt_124 : decode cX12_worthAt 124 = .ok (.iconst 1, 1) := by decide +kernel
theorem dX12_worthAt_125 : decode cX12_worthAt 125 = .ok (.isub, 1) := by decide +kernel
theorem dX12_worthAt_126 : decode cX12_worthAt 126 = .ok (.iload 4, 2) := by decide +kernel
theorem dX12_worthAt_128 : decode cX12_worthAt 128 = .ok (.aload_n 0, 1) := by decide +kernel
theorem dX12_worthAt_129 : decode cX12_worthAt 129 = .ok (.getfield 90, 3) := by decide +kernel
theorem dX12_worthAt_132 : decode cX12_worthAt 132 = .ok (.iload_n 2, 1) := by decide +kernel
theorem dX12_worthAt_133 : decode cX12_worthAt 133 = .ok (.iconst 1, 1) := by decide +kernel
theorem dX12_worthAt_134 : decode cX12_worthAt 134 = .ok (.isub, 1) := by decide +kernel
theorem dX12_worthAt_135 : decode cX12_worthAt 135 = .ok (.iaload, 1) := by decide +kernel
theorem dX12_worthAt_136 : decode cX12_worthAt 136 = .ok (.aload_n 0, 1) := by decide +kernel
theorem dX12_worthAt_137 : decode cX12_worthAt 137 = .ok (.getfield 90, 3) := by decide +kernel
theorem dX12_worthAt_140 : decode cX12_worthAt 140 = .ok (.iload_n 2, 1) := by decide +kernel
theorem dX12_worthAt_141 : decode cX12_worthAt 141 = .ok (.iaload, 1) := by decide +kernel
theorem dX12_worthAt_142 : decode cX12_worthAt 142 = .ok (.invokestatic 268, 3) := by decide +kernel
theorem dX12_worthAt_145 : decode cX12_worthAt 145 = .ok (.iastore, 1) := by decide +kernel
theorem dX12_worthAt_146 : decode cX12_worthAt 146 = .ok (.iinc 3 1, 3) := by decide +kernel
theorem dX12_worthAt_149 : decode cX12_worthAt 149 = .ok (.goto (-145), 3) := by decide +kernel
theorem dX12_worthAt_152 : decode cX12_worthAt 152 = .ok (.aload_n 0, 1) := by decide +kernel
theorem dX12_worthAt_153 : decode cX12_worthAt 153 = .ok (.getfield 90, 3) := by decide +kernel
theorem dX12_worthAt_156 : decode cX12_worthAt 156 = .ok (.iconst 0, 1) := by decide +kernel
theorem dX12_worthAt_157 : decode cX12_worthAt 157 = .ok (.iaload, 1) := by decide +kernel
theorem dX12_worthAt_158 : decode cX12_worthAt 158 = .ok (.ireturn, 1) := by decide +kernel
theorem dX12_worked_0 : decode cX12_worked 0 = .ok (.iload_n 0, 1) := by decide +kernel
theorem dX12_worked_1 : decode cX12_worked 1 = .ok (.tableswitch 87 4 9 #[39, 43, 47, 51, 62, 73], 39) := by decide +kernel
theorem dX12_worked_40 : decode cX12_worked 40 = .ok (.iload_n 1, 1) := by decide +kernel
theorem dX12_worked_41 : decode cX12_worked 41 = .ok (.iload_n 2, 1) := by decide +kernel
theorem dX12_worked_42 : decode cX12_worked 42 = .ok (.iadd, 1) := by decide +kernel
theorem dX12_worked_43 : decode cX12_worked 43 = .ok (.ireturn, 1) := by decide +kernel
theorem dX12_worked_44 : decode cX12_worked 44 = .ok (.iload_n 1, 1) := by decide +kernel
theorem dX12_worked_45 : decode cX12_worked 45 = .ok (.iload_n 2, 1) := by decide +kernel
theorem dX12_worked_46 : decode cX12_worked 46 = .ok (.isub, 1) := by decide +kernel
theorem dX12_worked_47 : decode cX12_worked 47 = .ok (.ireturn, 1) := by decide +kernel
theorem dX12_worked_48 : decode cX12_worked 48 = .ok (.iload_n 1, 1) := by decide +kernel
theorem dX12_worked_49 : decode cX12_worked 49 = .ok (.iload_n 2, 1) := by decide +kernel
theorem dX12_worked_50 : decode cX12_worked 50 = .ok (.imul, 1) := by decide +kernel
theorem dX12_worked_51 : decode cX12_worked 51 = .ok (.ireturn, 1) := by decide +kernel
theorem dX12_worked_52 : decode cX12_worked 52 = .ok (.iload_n 1, 1) := by decide +kernel
theorem dX12_worked_53 : decode cX12_worked 53 = .ok (.iload_n 2, 1) := by decide +kernel
theorem dX12_worked_54 : decode cX12_worked 54 = .ok (.if_icmp .ge 7, 3) := by decide +kernel
theorem dX12_worked_57 : decode cX12_worked 57 = .ok (.iconst 1, 1) := by decide +kernel
theorem dX12_worked_58 : decode cX12_worked 58 = .ok (.goto 4, 3) := by decide +kernel
theorem dX12_worked_61 : decode cX12_worked 61 = .ok (.iconst 0, 1) := by decide +kernel
theorem dX12_worked_62 : decode cX12_worked 62 = .ok (.ireturn, 1) := by decide +kernel
theorem dX12_worked_63 : decode cX12_worked 63 = .ok (.iload_n 1, 1) := by decide +kernel
theorem dX12_worked_64 : decode cX12_worked 64 = .ok (.iload_n 2, 1) := by decide +kernel
theorem dX12_worked_65 : decode cX12_worked 65 = .ok (.if_icmp .ne 7, 3) := by decide +kernel
theorem dX12_worked_68 : decode cX12_worked 68 = .ok (.iconst 1, 1) := by decide +kernel
theorem dX12_worked_69 : decode cX12_worked 69 = .ok (.goto 4, 3) := by decide +kernel
theorem dX12_worked_72 : decode cX12_worked 72 = .ok (.iconst 0, 1) := by decide +kernel
theorem dX12_worked_73 : decode cX12_worked 73 = .ok (.ireturn, 1) := by decide +kernel
theorem dX12_worked_74 : decode cX12_worked 74 = .ok (.iload_n 1, 1) := by decide +kernel
theorem dX12_worked_75 : decode cX12_worked 75 = .ok (.ifCond .eq 11, 3) := by decide +kernel
theorem dX12_worked_78 : decode cX12_worked 78 = .ok (.iload_n 2, 1) := by decide +kernel
theorem dX12_worked_79 : decode cX12_worked 79 = .ok (.ifCond .eq 7, 3) := by decide +kernel
theorem dX12_worked_82 : decode cX12_worked 82 = .ok (.iconst 1, 1) := by decide +kernel
theorem dX12_worked_83 : decode cX12_worked 83 = .ok (.goto 4, 3) := by decide +kernel
theorem dX12_worked_86 : decode cX12_worked 86 = .ok (.iconst 0, 1) := by decide +kernel
theorem dX12_worked_87 : decode cX12_worked 87 = .ok (.ireturn, 1) := by decide +kernel
theorem dX12_worked_88 : decode cX12_worked 88 = .ok (.iload_n 1, 1) := by decide +kernel
theorem dX12_worked_89 : decode cX12_worked 89 = .ok (.ifCond .ne 7, 3) := by decide +kernel
theorem dX12_worked_92 : decode cX12_worked 92 = .ok (.iload_n 2, 1) := by decide +kernel
theorem dX12_worked_93 : decode cX12_worked 93 = .ok (.ifCond .eq 7, 3) := by decide +kernel
theorem dX12_worked_96 : decode cX12_worked 96 = .ok (.iconst 1, 1) := by decide +kernel
theorem dX12_worked_97 : decode cX12_worked 97 = .ok (.goto 4, 3) := by decide +kernel
theorem dX12_worked_100 : decode cX12_worked 100 = .ok (.iconst 0, 1) := by decide +kernel
theorem dX12_worked_101 : decode cX12_worked 101 = .ok (.ireturn, 1) := by decide +kernel
theorem dX12_moves_0 : decode cX12_moves 0 = .ok (.iconst 0, 1) := by decide +kernel
theorem dX12_moves_1 : decode cX12_moves 1 = .ok (.istore 4, 2) := by decide +kernel
theorem dX12_moves_3 : decode cX12_moves 3 = .ok (.iload 4, 2) := by decide +kernel
theorem dX12_moves_5 : decode cX12_moves 5 = .ok (.iload_n 3, 1) := by decide +kernel
theorem dX12_moves_6 : decode cX12_moves 6 = .ok (.if_icmp .ge 27, 3) := by decide +kernel
theorem dX12_moves_9 : decode cX12_moves 9 = .ok (.aload_n 0, 1) := by decide +kernel
theorem dX12_moves_10 : decode cX12_moves 10 = .ok (.getfield 93, 3) := by decide +kernel
theorem dX12_moves_13 : decode cX12_moves 13 = .ok (.iload_n 2, 1) := by decide +kernel
theorem dX12_moves_14 : decode cX12_moves 14 = .ok (.iload 4, 2) := by decide +kernel
theorem dX12_moves_16 : decode cX12_moves 16 = .ok (.iadd, 1) := by decide +kernel
theorem dX12_moves_17 : decode cX12_moves 17 = .ok (.aload_n 0, 1) := by decide +kernel
theorem dX12_moves_18 : decode cX12_moves 18 = .ok (.getfield 93, 3) := by decide +kernel
theorem dX12_moves_21 : decode cX12_moves 21 = .ok (.iload_n 1, 1) := by decide +kernel
theorem dX12_moves_22 : decode cX12_moves 22 = .ok (.iload 4, 2) := by decide +kernel
theorem dX12_moves_24 : decode cX12_moves 24 = .ok (.iadd, 1) := by decide +kernel
theorem dX12_moves_25 : decode cX12_moves 25 = .ok (.iaload, 1) := by decide +kernel
theorem dX12_moves_26 : decode cX12_moves 26 = .ok (.iastore, 1) := by decide +kernel
theorem dX12_moves_27 : decode cX12_moves 27 = .ok (.iinc 4 1, 3) := by decide +kernel
theorem dX12_moves_30 : decode cX12_moves 30 = .ok (.goto (-27), 3) := by decide +kernel
theorem dX12_moves_33 : decode cX12_moves 33 = .ok (.return_, 1) := by decide +kernel
theorem dX12_starts_0 : decode cX12_starts 0 = .ok (.iconst 0, 1) := by decide +kernel
theorem dX12_starts_1 : decode cX12_starts 1 = .ok (.istore_n 2, 1) := by decide +kernel
theorem dX12_starts_2 : decode cX12_starts 2 = .ok (.iload_n 2, 1) := by decide +kernel
theorem dX12_starts_3 : decode cX12_starts 3 = .ok (.sipush 181, 3) := by decide +kernel
theorem dX12_starts_6 : decode cX12_starts 6 = .ok (.if_icmp .ge 18, 3) := by decide +kernel
theorem dX12_starts_9 : decode cX12_starts 9 = .ok (.aload_n 0, 1) := by decide +kernel
theorem dX12_starts_10 : decode cX12_starts 10 = .ok (.getfield 93, 3) := by decide +kernel
theorem dX12_starts_13 : decode cX12_starts 13 = .ok (.iload_n 1, 1) := by decide +kernel
theorem dX12_starts_14 : decode cX12_starts 14 = .ok (.iload_n 2, 1) := by decide +kernel
theorem dX12_starts_15 : decode cX12_starts 15 = .ok (.iadd, 1) := by decide +kernel
theorem dX12_starts_16 : decode cX12_starts 16 = .ok (.iconst 0, 1) := by decide +kernel
theorem dX12_starts_17 : decode cX12_starts 17 = .ok (.iastore, 1) := by decide +kernel
theorem dX12_starts_18 : decode cX12_starts 18 = .ok (.iinc 2 1, 3) := by decide +kernel
theorem dX12_starts_21 : decode cX12_starts 21 = .ok (.goto (-19), 3) := by decide +kernel
theorem dX12_starts_24 : decode cX12_starts 24 = .ok (.iconst 0, 1) := by decide +kernel
theorem dX12_starts_25 : decode cX12_starts 25 = .ok (.istore_n 2, 1) := by decide +kernel
theorem dX12_starts_26 : decode cX12_starts 26 = .ok (.iload_n 2, 1) := by decide +kernel
theorem dX12_starts_27 : decode cX12_starts 27 = .ok (.aload_n 0, 1) := by decide +kernel
theorem dX12_starts_28 : decode cX12_starts 28 = .ok (.invokevirtual 272, 3) := by decide +kernel
theorem dX12_starts_31 : decode cX12_starts 31 = .ok (.if_icmp .ge 80, 3) := by decide +kernel
theorem dX12_starts_34 : decode cX12_starts 34 = .ok (.aload_n 0, 1) := by decide +kernel
theorem dX12_starts_35 : decode cX12_starts 35 = .ok (.getfield 93, 3) := by decide +kernel
theorem dX12_starts_38 : decode cX12_starts 38 = .ok (.iload_n 1, 1) := by decide +kernel
theorem dX12_starts_39 : decode cX12_starts 39 = .ok (.iload_n 2, 1) := by decide +kernel
theorem dX12_starts_40 : decode cX12_starts 40 = .ok (.iadd, 1) := by decide +kernel
theorem dX12_starts_41 : decode cX12_starts 41 = .ok (.aload_n 0, 1) := by decide +kernel
theorem dX12_starts_42 : decode cX12_starts 42 = .ok (.getfield 75, 3) := by decide +kernel
theorem dX12_starts_45 : decode cX12_starts 45 = .ok (.iconst 3, 1) := by decide +kernel
theorem dX12_starts_46 : decode cX12_starts 46 = .ok (.bipush 22, 2) := by decide +kernel
theorem dX12_starts_48 : decode cX12_starts 48 = .ok (.iload_n 2, 1) := by decide +kernel
theorem dX12_starts_49 : decode cX12_starts 49 = .ok (.imul, 1) := by decide +kernel
theorem dX12_starts_50 : decode cX12_starts 50 = .ok (.iadd, 1) := by decide +kernel
theorem dX12_starts_51 : decode cX12_starts 51 = .ok (.iconst 1, 1) := by decide +kernel
theorem dX12_starts_52 : decode cX12_starts 52 = .ok (.iadd, 1) := by decide +kernel
theorem dX12_starts_53 : decode cX12_starts 53 = .ok (.iaload, 1) := by decide +kernel
theorem dX12_starts_54 : decode cX12_starts 54 = .ok (.iastore, 1) := by decide +kernel
theorem dX12_starts_55 : decode cX12_starts 55 = .ok (.iconst 0, 1) := by decide +kernel
theorem dX12_starts_56 : decode cX12_starts 56 = .ok (.istore_n 3, 1) := by decide +kernel
theorem dX12_starts_57 : decode cX12_starts 57 = .ok (.iload_n 3, 1) := by decide +kernel
theorem dX12_starts_58 : decode cX12_starts 58 = .ok (.aload_n 0, 1) := by decide +kernel
theorem dX12_starts_59 : decode cX12_starts 59 = .ok (.getfield 93, 3) := by decide +kernel
theorem dX12_starts_62 : decode cX12_starts 62 = .ok (.iload_n 1, 1) := by decide +kernel
theorem dX12_starts_63 : decode cX12_starts 63 = .ok (.iload_n 2, 1) := by decide +kernel
theorem dX12_starts_64 : decode cX12_starts 64 = .ok (.iadd, 1) := by decide +kernel
theorem dX12_starts_65 : decode cX12_starts 65 = .ok (.iaload, 1) := by decide +kernel
theorem dX12_starts_66 : decode cX12_starts 66 = .ok (.if_icmp .ge 39, 3) := by decide +kernel
theorem dX12_starts_69 : decode cX12_starts 69 = .ok (.aload_n 0, 1) := by decide +kernel
theorem dX12_starts_70 : decode cX12_starts 70 = .ok (.getfield 93, 3) := by decide +kernel
theorem dX12_starts_73 : decode cX12_starts 73 = .ok (.iload_n 1, 1) := by decide +kernel
theorem dX12_starts_74 : decode cX12_starts 74 = .ok (.iconst 4, 1) := by decide +kernel
theorem dX12_starts_75 : decode cX12_starts 75 = .ok (.iadd, 1) := by decide +kernel
theorem dX12_starts_76 : decode cX12_starts 76 = .ok (.bipush 20, 2) := by decide +kernel
theorem dX12_starts_78 : decode cX12_starts 78 = .ok (.iload_n 2, 1) := by decide +kernel
theorem dX12_starts_79 : decode cX12_starts 79 = .ok (.imul, 1) := by decide +kernel
theorem dX12_starts_80 : decode cX12_starts 80 = .ok (.iadd, 1) := by decide +kernel
theorem dX12_starts_81 : decode cX12_starts 81 = .ok (.iload_n 3, 1) := by decide +kernel
theorem dX12_starts_82 : decode cX12_starts 82 = .ok (.iadd, 1) := by decide +kernel
theorem dX12_starts_83 : decode cX12_starts 83 = .ok (.aload_n 0, 1) := by decide +kernel
theorem dX12_starts_84 : decode cX12_starts 84 = .ok (.getfield 75, 3) := by decide +kernel
theorem dX12_starts_87 : decode cX12_starts 87 = .ok (.iconst 3, 1) := by decide +kernel
theorem dX12_starts_88 : decode cX12_starts 88 = .ok (.bipush 22, 2) := by decide +kernel
theorem dX12_starts_90 : decode cX12_starts 90 = .ok (.iload_n 2, 1) := by decide +kernel
theorem dX12_starts_91 : decode cX12_starts 91 = .ok (.imul, 1) := by decide +kernel
theorem dX12_starts_92 : decode cX12_starts 92 = .ok (.iadd, 1) := by decide +kernel
theorem dX12_starts_93 : decode cX12_starts 93 = .ok (.iconst 2, 1) := by decide +kernel
theorem dX12_starts_94 : decode cX12_starts 94 = .ok (.iadd, 1) := by decide +kernel
theorem dX12_starts_95 : decode cX12_starts 95 = .ok (.iload_n 3, 1) := by decide +kernel
theorem dX12_starts_96 : decode cX12_starts 96 = .ok (.iadd, 1) := by decide +kernel
theorem dX12_starts_97 : decode cX12_starts 97 = .ok (.iaload, 1) := by decide +kernel
theorem dX12_starts_98 : decode cX12_starts 98 = .ok (.iastore, 1) := by decide +kernel
theorem dX12_starts_99 : decode cX12_starts 99 = .ok (.iinc 3 1, 3) := by decide +kernel
theorem dX12_starts_102 : decode cX12_starts 102 = .ok (.goto (-45), 3) := by decide +kernel
theorem dX12_starts_105 : decode cX12_starts 105 = .ok (.iinc 2 1, 3) := by decide +kernel
theorem dX12_starts_108 : decode cX12_starts 108 = .ok (.goto (-82), 3) := by decide +kernel
theorem dX12_starts_111 : decode cX12_starts 111 = .ok (.aload_n 0, 1) := by decide +kernel
theorem dX12_starts_112 : decode cX12_starts 112 = .ok (.getfield 93, 3) := by decide +kernel
theorem dX12_starts_115 : decode cX12_starts 115 = .ok (.iload_n 1, 1) := by decide +kernel
theorem dX12_starts_116 : decode cX12_starts 116 = .ok (.bipush 84, 2) := by decide +kernel
theorem dX12_starts_118 : decode cX12_starts 118 = .ok (.iadd, 1) := by decide +kernel
theorem dX12_starts_119 : decode cX12_starts 119 = .ok (.aload_n 0, 1) := by decide +kernel
theorem dX12_starts_120 : decode cX12_starts 120 = .ok (.getfield 75, 3) := by decide +kernel
theorem dX12_starts_123 : decode cX12_starts 123 = .ok (.iconst 1, 1) := by decide +kernel
theorem dX12_starts_124 : decode cX12_starts 124 = .ok (.iaload, 1) := by decide +kernel
theorem dX12_starts_125 : decode cX12_starts 125 = .ok (.iastore, 1) := by decide +kernel
theorem dX12_starts_126 : decode cX12_starts 126 = .ok (.iconst 0, 1) := by decide +kernel
theorem dX12_starts_127 : decode cX12_starts 127 = .ok (.istore_n 2, 1) := by decide +kernel
theorem dX12_starts_128 : decode cX12_starts 128 = .ok (.iload_n 2, 1) := by decide +kernel
theorem dX12_starts_129 : decode cX12_starts 129 = .ok (.aload_n 0, 1) := by decide +kernel
theorem dX12_starts_130 : decode cX12_starts 130 = .ok (.getfield 75, 3) := by decide +kernel
theorem dX12_starts_133 : decode cX12_starts 133 = .ok (.iconst 1, 1) := by decide +kernel
theorem dX12_starts_134 : decode cX12_starts 134 = .ok (.iaload, 1) := by decide +kernel
theorem dX12_starts_135 : decode cX12_starts 135 = .ok (.if_icmp .ge 90, 3) := by decide +kernel
theorem dX12_starts_138 : decode cX12_starts 138 = .ok (.aload_n 0, 1) := by decide +kernel
theorem dX12_starts_139 : decode cX12_starts 139 = .ok (.getfield 93, 3) := by decide +kernel
theorem dX12_starts_142 : decode cX12_starts 142 = .ok (.iload_n 1, 1) := by decide +kernel
theorem dX12_starts_143 : decode cX12_starts 143 = .ok (.bipush 85, 2) := by decide +kernel
theorem dX12_starts_145 : decode cX12_starts 145 = .ok (.iadd, 1) := by decide +kernel
theorem dX12_starts_146 : decode cX12_starts 146 = .ok (.iload_n 2, 1) := by decide +kernel
theorem dX12_starts_147 : decode cX12_starts 147 = .ok (.iadd, 1) := by decide +kernel
theorem dX12_starts_148 : decode cX12_starts 148 = .ok (.aload_n 0, 1) := by decide +kernel
theorem dX12_starts_149 : decode cX12_starts 149 = .ok (.getfield 75, 3) := by decide +kernel
theorem dX12_starts_152 : decode cX12_starts 152 = .ok (.bipush 91, 2) := by decide +kernel
theorem dX12_starts_154 : decode cX12_starts 154 = .ok (.bipush 11, 2) := by decide +kernel
theorem dX12_starts_156 : decode cX12_starts 156 = .ok (.iload_n 2, 1) := by decide +kernel
theorem dX12_starts_157 : decode cX12_starts 157 = .ok (.imul, 1) := by decide +kernel
theorem dX12_starts_158 : decode cX12_starts 158 = .ok (.iadd, 1) := by decide +kernel
theorem dX12_starts_159 : decode cX12_starts 159 = .ok (.iaload, 1) := by decide +kernel
theorem dX12_starts_160 : decode cX12_starts 160 = .ok (.iastore, 1) := by decide +kernel
theorem dX12_starts_161 : decode cX12_starts 161 = .ok (.aload_n 0, 1) := by decide +kernel
theorem dX12_starts_162 : decode cX12_starts 162 = .ok (.getfield 93, 3) := by decide +kernel
theorem dX12_starts_165 : decode cX12_starts 165 = .ok (.iload_n 1, 1) := by decide +kernel
theorem dX12_starts_166 : decode cX12_starts 166 = .ok (.bipush 93, 2) := by decide +kernel
theorem dX12_starts_168 : decode cX12_starts 168 = .ok (.iadd, 1) := by decide +kernel
theorem dX12_starts_169 : decode cX12_starts 169 = .ok (.iload_n 2, 1) := by decide +kernel
theorem dX12_starts_170 : decode cX12_starts 170 = .ok (.iadd, 1) := by decide +kernel
theorem dX12_starts_171 : decode cX12_starts 171 = .ok (.iload_n 2, 1) := by decide +kernel
theorem dX12_starts_172 : decode cX12_starts 172 = .ok (.iastore, 1) := by decide +kernel
theorem dX12_starts_173 : decode cX12_starts 173 = .ok (.iconst 0, 1) := by decide +kernel
theorem dX12_starts_174 : decode cX12_starts 174 = .ok (.istore_n 3, 1) := by decide +kernel
theorem dX12_starts_175 : decode cX12_starts 175 = .ok (.iload_n 3, 1) := by decide +kernel
theorem dX12_starts_176 : decode cX12_starts 176 = .ok (.bipush 10, 2) := by decide +kernel
theorem dX12_starts_178 : decode cX12_starts 178 = .ok (.if_icmp .ge 41, 3) := by decide +kernel
theorem dX12_starts_181 : decode cX12_starts 181 = .ok (.aload_n 0, 1) := by decide +kernel
theorem dX12_starts_182 : decode cX12_starts 182 = .ok (.getfield 93, 3) := by decide +kernel
theorem dX12_starts_185 : decode cX12_starts 185 = .ok (.iload_n 1, 1) := by decide +kernel
theorem dX12_starts_186 : decode cX12_starts 186 = .ok (.bipush 101, 2) := by decide +kernel
theorem dX12_starts_188 : decode cX12_starts 188 = .ok (.iadd, 1) := by decide +kernel
theorem dX12_starts_189 : decode cX12_starts 189 = .ok (.bipush 10, 2) := by decide +kernel
theorem dX12_starts_191 : decode cX12_starts 191 = .ok (.iload_n 2, 1) := by decide +kernel
theorem dX12_starts_192 : decode cX12_starts 192 = .ok (.imul, 1) := by decide +kernel
theorem dX12_starts_193 : decode cX12_starts 193 = .ok (.iadd, 1) := by decide +kernel
theorem dX12_starts_194 : decode cX12_starts 194 = .ok (.iload_n 3, 1) := by decide +kernel
theorem dX12_starts_195 : decode cX12_starts 195 = .ok (.iadd, 1) := by decide +kernel
theorem dX12_starts_196 : decode cX12_starts 196 = .ok (.aload_n 0, 1) := by decide +kernel
theorem dX12_starts_197 : decode cX12_starts 197 = .ok (.getfield 75, 3) := by decide +kernel
theorem dX12_starts_200 : decode cX12_starts 200 = .ok (.bipush 91, 2) := by decide +kernel
theorem dX12_starts_202 : decode cX12_starts 202 = .ok (.bipush 11, 2) := by decide +kernel
theorem dX12_starts_204 : decode cX12_starts 204 = .ok (.iload_n 2, 1) := by decide +kernel
theorem dX12_starts_205 : decode cX12_starts 205 = .ok (.imul, 1) := by decide +kernel
theorem dX12_starts_206 : decode cX12_starts 206 = .ok (.iadd, 1) := by decide +kernel
theorem dX12_starts_207 : decode cX12_starts 207 = .ok (.iconst 1, 1) := by decide +kernel
theorem dX12_starts_208 : decode cX12_starts 208 = .ok (.iadd, 1) := by decide +kernel
theorem dX12_starts_209 : decode cX12_starts 209 = .ok (.iload_n 3, 1) := by decide +kernel
theorem dX12_starts_210 : decode cX12_starts 210 = .ok (.iadd, 1) := by decide +kernel
theorem dX12_starts_211 : decode cX12_starts 211 = .ok (.iaload, 1) := by decide +kernel
theorem dX12_starts_212 : decode cX12_starts 212 = .ok (.iastore, 1) := by decide +kernel
theorem dX12_starts_213 : decode cX12_starts 213 = .ok (.iinc 3 1, 3) := by decide +kernel
theorem dX12_starts_216 : decode cX12_starts 216 = .ok (.goto (-41), 3) := by decide +kernel
theorem dX12_starts_219 : decode cX12_starts 219 = .ok (.iinc 2 1, 3) := by decide +kernel
theorem dX12_starts_222 : decode cX12_starts 222 = .ok (.goto (-94), 3) := by decide +kernel
theorem dX12_starts_225 : decode cX12_starts 225 = .ok (.return_, 1) := by decide +kernel
theorem dX12_begins_0 : decode cX12_begins 0 = .ok (.aload_n 0, 1) := by decide +kernel
theorem dX12_begins_1 : decode cX12_begins 1 = .ok (.iconst 0, 1) := by decide +kernel
theorem dX12_begins_2 : decode cX12_begins 2 = .ok (.invokevirtual 276, 3) := by decide +kernel
theorem dX12_begins_5 : decode cX12_begins 5 = .ok (.aload_n 0, 1) := by decide +kernel
theorem dX12_begins_6 : decode cX12_begins 6 = .ok (.getfield 93, 3) := by decide +kernel
theorem dX12_begins_9 : decode cX12_begins 9 = .ok (.sipush 181, 3) := by decide +kernel
theorem dX12_begins_12 : decode cX12_begins 12 = .ok (.iconst 0, 1) := by decide +kernel
theorem dX12_begins_13 : decode cX12_begins 13 = .ok (.iastore, 1) := by decide +kernel
theorem dX12_begins_14 : decode cX12_begins 14 = .ok (.aload_n 0, 1) := by decide +kernel
theorem dX12_begins_15 : decode cX12_begins 15 = .ok (.aload_n 0, 1) := by decide +kernel
theorem dX12_begins_16 : decode cX12_begins 16 = .ok (.getfield 75, 3) := by decide +kernel
theorem dX12_begins_19 : decode cX12_begins 19 = .ok (.iconst 1, 1) := by decide +kernel
theorem dX12_begins_20 : decode cX12_begins 20 = .ok (.iaload, 1) := by decide +kernel
theorem dX12_begins_21 : decode cX12_begins 21 = .ok (.putfield 279, 3) := by decide +kernel
theorem dX12_begins_24 : decode cX12_begins 24 = .ok (.aload_n 0, 1) := by decide +kernel
theorem dX12_begins_25 : decode cX12_begins 25 = .ok (.getfield 84, 3) := by decide +kernel
theorem dX12_begins_28 : decode cX12_begins 28 = .ok (.iconst 0, 1) := by decide +kernel
theorem dX12_begins_29 : decode cX12_begins 29 = .ok (.iconst 0, 1) := by decide +kernel
theorem dX12_begins_30 : decode cX12_begins 30 = .ok (.iastore, 1) := by decide +kernel
theorem dX12_begins_31 : decode cX12_begins 31 = .ok (.aload_n 0, 1) := by decide +kernel
theorem dX12_begins_32 : decode cX12_begins 32 = .ok (.iconst 0, 1) := by decide +kernel
theorem dX12_begins_33 : decode cX12_begins 33 = .ok (.putfield 282, 3) := by decide +kernel
theorem dX12_begins_36 : decode cX12_begins 36 = .ok (.iconst 0, 1) := by decide +kernel
theorem dX12_begins_37 : decode cX12_begins 37 = .ok (.istore_n 1, 1) := by decide +kernel
theorem dX12_begins_38 : decode cX12_begins 38 = .ok (.iload_n 1, 1) := by decide +kernel
theorem dX12_begins_39 : decode cX12_begins 39 = .ok (.iconst 4, 1) := by decide +kernel
theorem dX12_begins_40 : decode cX12_begins 40 = .ok (.if_icmp .ge 16, 3) := by decide +kernel
theorem dX12_begins_43 : decode cX12_begins 43 = .ok (.aload_n 0, 1) := by decide +kernel
theorem dX12_begins_44 : decode cX12_begins 44 = .ok (.getfield 96, 3) := by decide +kernel
theorem dX12_begins_47 : decode cX12_begins 47 = .ok (.iload_n 1, 1) := by decide +kernel
theorem dX12_begins_48 : decode cX12_begins 48 = .ok (.iconst 0, 1) := by decide +kernel
theorem dX12_begins_49 : decode cX12_begins 49 = .ok (.bastore, 1) := by decide +kernel
theorem dX12_begins_50 : decode cX12_begins 50 = .ok (.iinc 1 1, 3) := by decide +kernel
theorem dX12_begins_53 : decode cX12_begins 53 = .ok (.goto (-15), 3) := by decide +kernel
theorem dX12_begins_56 : decode cX12_begins 56 = .ok (.return_, 1) := by decide +kernel
theorem dX12_keeps_0 : decode cX12_keeps 0 = .ok (.aload_n 0, 1) := by decide +kernel
theorem dX12_keeps_1 : decode cX12_keeps 1 = .ok (.getfield 282, 3) := by decide +kernel
theorem dX12_keeps_4 : decode cX12_keeps 4 = .ok (.bipush 16, 2) := by decide +kernel
theorem dX12_keeps_6 : decode cX12_keeps 6 = .ok (.if_icmp .ne 50, 3) := by decide +kernel
theorem dX12_keeps_9 : decode cX12_keeps 9 = .ok (.iconst 1, 1) := by decide +kernel
theorem dX12_keeps_10 : decode cX12_keeps 10 = .ok (.istore_n 1, 1) := by decide +kernel
theorem dX12_keeps_11 : decode cX12_keeps 11 = .ok (.iload_n 1, 1) := by decide +kernel
theorem dX12_keeps_12 : decode cX12_keeps 12 = .ok (.bipush 16, 2) := by decide +kernel
theorem dX12_keeps_14 : decode cX12_keeps 14 = .ok (.if_icmp .ge 32, 3) := by decide +kernel
theorem dX12_keeps_17 : decode cX12_keeps 17 = .ok (.aload_n 0, 1) := by decide +kernel
theorem dX12_keeps_18 : decode cX12_keeps 18 = .ok (.sipush 206, 3) := by decide +kernel
theorem dX12_keeps_21 : decode cX12_keeps 21 = .ok (.iconst 5, 1) := by decide +kernel
theorem dX12_keeps_22 : decode cX12_keeps 22 = .ok (.iload_n 1, 1) := by decide +kernel
theorem dX12_keeps_23 : decode cX12_keeps 23 = .ok (.iadd, 1) := by decide +kernel
theorem dX12_keeps_24 : decode cX12_keeps 24 = .ok (.imul, 1) := by decide +kernel
theorem dX12_keeps_25 : decode cX12_keeps 25 = .ok (.sipush 206, 3) := by decide +kernel
theorem dX12_keeps_28 : decode cX12_keeps 28 = .ok (.iconst 5, 1) := by decide +kernel
theorem dX12_keeps_29 : decode cX12_keeps 29 = .ok (.iload_n 1, 1) := by decide +kernel
theorem dX12_keeps_30 : decode cX12_keeps 30 = .ok (.iadd, 1) := by decide +kernel
theorem dX12_keeps_31 : decode cX12_keeps 31 = .ok (.iconst 1, 1) := by decide +kernel
theorem dX12_keeps_32 : decode cX12_keeps 32 = .ok (.isub, 1) := by decide +kernel
theorem dX12_keeps_33 : decode cX12_keeps 33 = .ok (.imul, 1) := by decide +kernel
theorem dX12_keeps_34 : decode cX12_keeps 34 = .ok (.sipush 181, 3) := by decide +kernel
theorem dX12_keeps_37 : decode cX12_keeps 37 = .ok (.invokevirtual 285, 3) := by decide +kernel
theorem dX12_keeps_40 : decode cX12_keeps 40 = .ok (.iinc 1 1, 3) := by decide +kernel
theorem dX12_keeps_43 : decode cX12_keeps 43 = .ok (.goto (-32), 3) := by decide +kernel
theorem dX12_keeps_46 : decode cX12_keeps 46 = .ok (.aload_n 0, 1) := by decide +kernel
theorem dX12_keeps_47 : decode cX12_keeps 47 = .ok (.dup, 1) := by decide +kernel
theorem dX12_keeps_48 : decode cX12_keeps 48 = .ok (.getfield 282, 3) := by decide +kernel
theorem dX12_keeps_51 : decode cX12_keeps 51 = .ok (.iconst 1, 1) := by decide +kernel
theorem dX12_keeps_52 : decode cX12_keeps 52 = .ok (.isub, 1) := by decide +kernel
theorem dX12_keeps_53 : decode cX12_keeps 53 = .ok (.putfield 282, 3) := by decide +kernel
theorem dX12_keeps_56 : decode cX12_keeps 56 = .ok (.aload_n 0, 1) := by decide +kernel
theorem dX12_keeps_57 : decode cX12_keeps 57 = .ok (.iconst 0, 1) := by decide +kernel
theorem dX12_keeps_58 : decode cX12_keeps 58 = .ok (.sipush 206, 3) := by decide +kernel
theorem dX12_keeps_61 : decode cX12_keeps 61 = .ok (.iconst 5, 1) := by decide +kernel
theorem dX12_keeps_62 : decode cX12_keeps 62 = .ok (.aload_n 0, 1) := by decide +kernel
theorem dX12_keeps_63 : decode cX12_keeps 63 = .ok (.getfield 282, 3) := by decide +kernel
theorem dX12_keeps_66 : decode cX12_keeps 66 = .ok (.iadd, 1) := by decide +kernel
theorem dX12_keeps_67 : decode cX12_keeps 67 = .ok (.imul, 1) := by decide +kernel
theorem dX12_keeps_68 : decode cX12_keeps 68 = .ok (.sipush 181, 3) := by decide +kernel
theorem dX12_keeps_71 : decode cX12_keeps 71 = .ok (.invokevirtual 285, 3) := by decide +kernel
theorem dX12_keeps_74 : decode cX12_keeps 74 = .ok (.aload_n 0, 1) := by decide +kernel
theorem dX12_keeps_75 : decode cX12_keeps 75 = .ok (.dup, 1) := by decide +kernel
theorem dX12_keeps_76 : decode cX12_keeps 76 = .ok (.getfield 282, 3) := by decide +kernel
theorem dX12_keeps_79 : decode cX12_keeps 79 = .ok (.iconst 1, 1) := by decide +kernel
theorem dX12_keeps_80 : decode cX12_keeps 80 = .ok (.iadd, 1) := by decide +kernel
theorem dX12_keeps_81 : decode cX12_keeps 81 = .ok (.putfield 282, 3) := by decide +kernel
theorem dX12_keeps_84 : decode cX12_keeps 84 = .ok (.return_, 1) := by decide +kernel
theorem dX12_rows_0 : decode cX12_rows 0 = .ok (.aload_n 0, 1) := by decide +kernel
theorem dX12_rows_1 : decode cX12_rows 1 = .ok (.getfield 75, 3) := by decide +kernel
theorem dX12_rows_4 : decode cX12_rows 4 = .ok (.iconst 0, 1) := by decide +kernel
theorem dX12_rows_5 : decode cX12_rows 5 = .ok (.iaload, 1) := by decide +kernel
theorem dX12_rows_6 : decode cX12_rows 6 = .ok (.ireturn, 1) := by decide +kernel
theorem dX12_kindOf_0 : decode cX12_kindOf 0 = .ok (.aload_n 0, 1) := by decide +kernel
theorem dX12_kindOf_1 : decode cX12_kindOf 1 = .ok (.getfield 75, 3) := by decide +kernel
theorem dX12_kindOf_4 : decode cX12_kindOf 4 = .ok (.iconst 3, 1) := by decide +kernel
theorem dX12_kindOf_5 : decode cX12_kindOf 5 = .ok (.bipush 22, 2) := by decide +kernel
theorem dX12_kindOf_7 : decode cX12_kindOf 7 = .ok (.iload_n 1, 1) := by decide +kernel
theorem dX12_kindOf_8 : decode cX12_kindOf 8 = .ok (.imul, 1) := by decide +kernel
theorem dX12_kindOf_9 : decode cX12_kindOf 9 = .ok (.iadd, 1) := by decide +kernel
theorem dX12_kindOf_10 : decode cX12_kindOf 10 = .ok (.iaload, 1) := by decide +kernel
theorem dX12_kindOf_11 : decode cX12_kindOf 11 = .ok (.ireturn, 1) := by decide +kernel
theorem dX12_manyOf_0 : decode cX12_manyOf 0 = .ok (.aload_n 0, 1) := by decide +kernel
theorem dX12_manyOf_1 : decode cX12_manyOf 1 = .ok (.getfield 93, 3) := by decide +kernel
theorem dX12_manyOf_4 : decode cX12_manyOf 4 = .ok (.iload_n 1, 1) := by decide +kernel
theorem dX12_manyOf_5 : decode cX12_manyOf 5 = .ok (.iload_n 2, 1) := by decide +kernel
theorem dX12_manyOf_6 : decode cX12_manyOf 6 = .ok (.iadd, 1) := by decide +kernel
theorem dX12_manyOf_7 : decode cX12_manyOf 7 = .ok (.iaload, 1) := by decide +kernel
theorem dX12_manyOf_8 : decode cX12_manyOf 8 = .ok (.ireturn, 1) := by decide +kernel
theorem dX12_numberAt_0 : decode cX12_numberAt 0 = .ok (.iload_n 0, 1) := by decide +kernel
theorem dX12_numberAt_1 : decode cX12_numberAt 1 = .ok (.iconst 4, 1) := by decide +kernel
theorem dX12_numberAt_2 : decode cX12_numberAt 2 = .ok (.iadd, 1) := by decide +kernel
theorem dX12_numberAt_3 : decode cX12_numberAt 3 = .ok (.bipush 20, 2) := by decide +kernel
theorem dX12_numberAt_5 : decode cX12_numberAt 5 = .ok (.iload_n 1, 1) := by decide +kernel
theorem dX12_numberAt_6 : decode cX12_numberAt 6 = .ok (.imul, 1) := by decide +kernel
theorem dX12_numberAt_7 : decode cX12_numberAt 7 = .ok (.iadd, 1) := by decide +kernel
theorem dX12_numberAt_8 : decode cX12_numberAt 8 = .ok (.iload_n 2, 1) := by decide +kernel
theorem dX12_numberAt_9 : decode cX12_numberAt 9 = .ok (.iadd, 1) := by decide +kernel
theorem dX12_numberAt_10 : decode cX12_numberAt 10 = .ok (.ireturn, 1) := by decide +kernel
theorem dX12_isRow_0 : decode cX12_isRow 0 = .ok (.iload_n 1, 1) := by decide +kernel
theorem dX12_isRow_1 : decode cX12_isRow 1 = .ok (.ifCond .lt 15, 3) := by decide +kernel
theorem dX12_isRow_4 : decode cX12_isRow 4 = .ok (.iload_n 1, 1) := by decide +kernel
theorem dX12_isRow_5 : decode cX12_isRow 5 = .ok (.aload_n 0, 1) := by decide +kernel
theorem dX12_isRow_6 : decode cX12_isRow 6 = .ok (.invokevirtual 272, 3) := by decide +kernel
theorem dX12_isRow_9 : decode cX12_isRow 9 = .ok (.if_icmp .ge 7, 3) := by decide +kernel
theorem dX12_isRow_12 : decode cX12_isRow 12 = .ok (.iconst 1, 1) := by decide +kernel
theorem dX12_isRow_13 : decode cX12_isRow 13 = .ok (.goto 4, 3) := by decide +kernel
theorem dX12_isRow_16 : decode cX12_isRow 16 = .ok (.iconst 0, 1) := by decide +kernel
theorem dX12_isRow_17 : decode cX12_isRow 17 = .ok (.ireturn, 1) := by decide +kernel
theorem dX12_isPlace_0 : decode cX12_isPlace 0 = .ok (.aload_n 0, 1) := by decide +kernel
theorem dX12_isPlace_1 : decode cX12_isPlace 1 = .ok (.iload_n 1, 1) := by decide +kernel
theorem dX12_isPlace_2 : decode cX12_isPlace 2 = .ok (.invokevirtual 289, 3) := by decide +kernel
theorem dX12_isPlace_5 : decode cX12_isPlace 5 = .ok (.ifCond .eq 21, 3) := by decide +kernel
theorem dX12_isPlace_8 : decode cX12_isPlace 8 = .ok (.iload_n 2, 1) := by decide +kernel
theorem dX12_isPlace_9 : decode cX12_isPlace 9 = .ok (.ifCond .lt 17, 3) := by decide +kernel
theorem dX12_isPlace_12 : decode cX12_isPlace 12 = .ok (.iload_n 2, 1) := by decide +kernel
theorem dX12_isPlace_13 : decode cX12_isPlace 13 = .ok (.aload_n 0, 1) := by decide +kernel
theorem dX12_isPlace_14 : decode cX12_isPlace 14 = .ok (.iconst 0, 1) := by decide +kernel
theorem dX12_isPlace_15 : decode cX12_isPlace 15 = .ok (.iload_n 1, 1) := by decide +kernel
theorem dX12_isPlace_16 : decode cX12_isPlace 16 = .ok (.invokevirtual 292, 3) := by decide +kernel
theorem dX12_isPlace_19 : decode cX12_isPlace 19 = .ok (.if_icmp .ge 7, 3) := by decide +kernel
theorem dX12_isPlace_22 : decode cX12_isPlace 22 = .ok (.iconst 1, 1) := by decide +kernel
theorem dX12_isPlace_23 : decode cX12_isPlace 23 = .ok (.goto 4, 3) := by decide +kernel
theorem dX12_isPlace_26 : decode cX12_isPlace 26 = .ok (.iconst 0, 1) := by decide +kernel
theorem dX12_isPlace_27 : decode cX12_isPlace 27 = .ok (.ireturn, 1) := by decide +kernel
theorem dX12_isWindow_0 : decode cX12_isWindow 0 = .ok (.aload_n 0, 1) := by decide +kernel
theorem dX12_isWindow_1 : decode cX12_isWindow 1 = .ok (.iload_n 1, 1) := by decide +kernel
theorem dX12_isWindow_2 : decode cX12_isWindow 2 = .ok (.invokevirtual 289, 3) := by decide +kernel
theorem dX12_isWindow_5 : decode cX12_isWindow 5 = .ok (.ifCond .eq 26, 3) := by decide +kernel
theorem dX12_isWindow_8 : decode cX12_isWindow 8 = .ok (.iload_n 2, 1) := by decide +kernel
theorem dX12_isWindow_9 : decode cX12_isWindow 9 = .ok (.ifCond .lt 22, 3) := by decide +kernel
theorem dX12_isWindow_12 : decode cX12_isWindow 12 = .ok (.iload_n 2, 1) := by decide +kernel
theorem dX12_isWindow_13 : decode cX12_isWindow 13 = .ok (.iload_n 3, 1) := by decide +kernel
theorem dX12_isWindow_14 : decode cX12_isWindow 14 = .ok (.if_icmp .gt 17, 3) := by decide +kernel
theorem dX12_isWindow_17 : decode cX12_isWindow 17 = .ok (.iload_n 3, 1) := by decide +kernel
theorem dX12_isWindow_18 : decode cX12_isWindow 18 = .ok (.aload_n 0, 1) := by decide +kernel
theorem dX12_isWindow_19 : decode cX12_isWindow 19 = .ok (.iconst 0, 1) := by decide +kernel
theorem dX12_isWindow_20 : decode cX12_isWindow 20 = .ok (.iload_n 1, 1) := by decide +kernel
theorem dX12_isWindow_21 : decode cX12_isWindow 21 = .ok (.invokevirtual 292, 3) := by decide +kernel
theorem dX12_isWindow_24 : decode cX12_isWindow 24 = .ok (.if_icmp .gt 7, 3) := by decide +kernel
theorem dX12_isWindow_27 : decode cX12_isWindow 27 = .ok (.iconst 1, 1) := by decide +kernel
theorem dX12_isWindow_28 : decode cX12_isWindow 28 = .ok (.goto 4, 3) := by decide +kernel
theorem dX12_isWindow_31 : decode cX12_isWindow 31 = .ok (.iconst 0, 1) := by decide +kernel
theorem dX12_isWindow_32 : decode cX12_isWindow 32 = .ok (.ireturn, 1) := by decide +kernel
theorem dX12_isBraid_0 : decode cX12_isBraid 0 = .ok (.iload_n 1, 1) := by decide +kernel
theorem dX12_isBraid_1 : decode cX12_isBraid 1 = .ok (.ifCond .lt 18, 3) := by decide +kernel
theorem dX12_isBraid_4 : decode cX12_isBraid 4 = .ok (.iload_n 1, 1) := by decide +kernel
theorem dX12_isBraid_5 : decode cX12_isBraid 5 = .ok (.aload_n 0, 1) := by decide +kernel
theorem dX12_isBraid_6 : decode cX12_isBraid 6 = .ok (.getfield 93, 3) := by decide +kernel
theorem dX12_isBraid_9 : decode cX12_isBraid 9 = .ok (.bipush 84, 2) := by decide +kernel
theorem dX12_isBraid_11 : decode cX12_isBraid 11 = .ok (.iaload, 1) := by decide +kernel
theorem dX12_isBraid_12 : decode cX12_isBraid 12 = .ok (.if_icmp .ge 7, 3) := by decide +kernel
theorem dX12_isBraid_15 : decode cX12_isBraid 15 = .ok (.iconst 1, 1) := by decide +kernel
theorem dX12_isBraid_16 : decode cX12_isBraid 16 = .ok (.goto 4, 3) := by decide +kernel
theorem dX12_isBraid_19 : decode cX12_isBraid 19 = .ok (.iconst 0, 1) := by decide +kernel
theorem dX12_isBraid_20 : decode cX12_isBraid 20 = .ok (.ireturn, 1) := by decide +kernel
theorem dX12_strandsOf_0 : decode cX12_strandsOf 0 = .ok (.aload_n 0, 1) := by decide +kernel
theorem dX12_strandsOf_1 : decode cX12_strandsOf 1 = .ok (.getfield 93, 3) := by decide +kernel
theorem dX12_strandsOf_4 : decode cX12_strandsOf 4 = .ok (.bipush 85, 2) := by decide +kernel
theorem dX12_strandsOf_6 : decode cX12_strandsOf 6 = .ok (.iload_n 1, 1) := by decide +kernel
theorem dX12_strandsOf_7 : decode cX12_strandsOf 7 = .ok (.iadd, 1) := by decide +kernel
theorem dX12_strandsOf_8 : decode cX12_strandsOf 8 = .ok (.iaload, 1) := by decide +kernel
theorem dX12_strandsOf_9 : decode cX12_strandsOf 9 = .ok (.ireturn, 1) := by decide +kernel
theorem dX12_endOf_0 : decode cX12_endOf 0 = .ok (.aload_n 0, 1) := by decide +kernel
theorem dX12_endOf_1 : decode cX12_endOf 1 = .ok (.getfield 93, 3) := by decide +kernel
theorem dX12_endOf_4 : decode cX12_endOf 4 = .ok (.bipush 101, 2) := by decide +kernel
theorem dX12_endOf_6 : decode cX12_endOf 6 = .ok (.bipush 10, 2) := by decide +kernel
theorem dX12_endOf_8 : decode cX12_endOf 8 = .ok (.iload_n 1, 1) := by decide +kernel
theorem dX12_endOf_9 : decode cX12_endOf 9 = .ok (.imul, 1) := by decide +kernel
theorem dX12_endOf_10 : decode cX12_endOf 10 = .ok (.iadd, 1) := by decide +kernel
theorem dX12_endOf_11 : decode cX12_endOf 11 = .ok (.iload_n 2, 1) := by decide +kernel
theorem dX12_endOf_12 : decode cX12_endOf 12 = .ok (.iadd, 1) := by decide +kernel
theorem dX12_endOf_13 : decode cX12_endOf 13 = .ok (.iaload, 1) := by decide +kernel
theorem dX12_endOf_14 : decode cX12_endOf 14 = .ok (.ireturn, 1) := by decide +kernel
theorem dX12_weighs_0 : decode cX12_weighs 0 = .ok (.aload_n 0, 1) := by decide +kernel
theorem dX12_weighs_1 : decode cX12_weighs 1 = .ok (.getfield 87, 3) := by decide +kernel
theorem dX12_weighs_4 : decode cX12_weighs 4 = .ok (.iconst 0, 1) := by decide +kernel
theorem dX12_weighs_5 : decode cX12_weighs 5 = .ok (.iload_n 1, 1) := by decide +kernel
theorem dX12_weighs_6 : decode cX12_weighs 6 = .ok (.iastore, 1) := by decide +kernel
theorem dX12_weighs_7 : decode cX12_weighs 7 = .ok (.aload_n 0, 1) := by decide +kernel
theorem dX12_weighs_8 : decode cX12_weighs 8 = .ok (.getfield 87, 3) := by decide +kernel
theorem dX12_weighs_11 : decode cX12_weighs 11 = .ok (.iconst 1, 1) := by decide +kernel
theorem dX12_weighs_12 : decode cX12_weighs 12 = .ok (.iload_n 2, 1) := by decide +kernel
theorem dX12_weighs_13 : decode cX12_weighs 13 = .ok (.iastore, 1) := by decide +kernel
theorem dX12_weighs_14 : decode cX12_weighs 14 = .ok (.aload_n 0, 1) := by decide +kernel
theorem dX12_weighs_15 : decode cX12_weighs 15 = .ok (.getfield 87, 3) := by decide +kernel
theorem dX12_weighs_18 : decode cX12_weighs 18 = .ok (.iconst 2, 1) := by decide +kernel
theorem dX12_weighs_19 : decode cX12_weighs 19 = .ok (.iload_n 3, 1) := by decide +kernel
theorem dX12_weighs_20 : decode cX12_weighs 20 = .ok (.iastore, 1) := by decide +kernel
theorem dX12_weighs_21 : decode cX12_weighs 21 = .ok (.aload_n 0, 1) := by decide +kernel
theorem dX12_weighs_22 : decode cX12_weighs 22 = .ok (.getfield 87, 3) := by decide +kernel
theorem dX12_weighs_25 : decode cX12_weighs 25 = .ok (.iconst 3, 1) := by decide +kernel
theorem dX12_weighs_26 : decode cX12_weighs 26 = .ok (.iload 4, 2) := by decide +kernel
theorem dX12_weighs_28 : decode cX12_weighs 28 = .ok (.iastore, 1) := by decide +kernel
theorem dX12_weighs_29 : decode cX12_weighs 29 = .ok (.aload_n 0, 1) := by decide +kernel
theorem dX12_weighs_30 : decode cX12_weighs 30 = .ok (.getfield 75, 3) := by decide +kernel
theorem dX12_weighs_33 : decode cX12_weighs 33 = .ok (.iconst 2, 1) := by decide +kernel
theorem dX12_weighs_34 : decode cX12_weighs 34 = .ok (.iaload, 1) := by decide +kernel
theorem dX12_weighs_35 : decode cX12_weighs 35 = .ok (.ifCond .ge 7, 3) := by decide +kernel
theorem dX12_weighs_38 : decode cX12_weighs 38 = .ok (.iload_n 1, 1) := by decide +kernel
theorem dX12_weighs_39 : decode cX12_weighs 39 = .ok (.goto 13, 3) := by decide +kernel
theorem dX12_weighs_42 : decode cX12_weighs 42 = .ok (.aload_n 0, 1) := by decide +kernel
theorem dX12_weighs_43 : decode cX12_weighs 43 = .ok (.aload_n 0, 1) := by decide +kernel
theorem dX12_weighs_44 : decode cX12_weighs 44 = .ok (.getfield 75, 3) := by decide +kernel
theorem dX12_weighs_47 : decode cX12_weighs 47 = .ok (.iconst 2, 1) := by decide +kernel
theorem dX12_weighs_48 : decode cX12_weighs 48 = .ok (.iaload, 1) := by decide +kernel
theorem dX12_weighs_49 : decode cX12_weighs 49 = .ok (.invokevirtual 295, 3) := by decide +kernel
theorem dX12_weighs_52 : decode cX12_weighs 52 = .ok (.ireturn, 1) := by decide +kernel
theorem dX12_laysRow_0 : decode cX12_laysRow 0 = .ok (.aload_n 0, 1) := by decide +kernel
theorem dX12_laysRow_1 : decode cX12_laysRow 1 = .ok (.aload_n 0, 1) := by decide +kernel
theorem dX12_laysRow_2 : decode cX12_laysRow 2 = .ok (.iload_n 1, 1) := by decide +kernel
theorem dX12_laysRow_3 : decode cX12_laysRow 3 = .ok (.invokevirtual 298, 3) := by decide +kernel
theorem dX12_laysRow_6 : decode cX12_laysRow 6 = .ok (.putfield 301, 3) := by decide +kernel
theorem dX12_laysRow_9 : decode cX12_laysRow 9 = .ok (.aload_n 0, 1) := by decide +kernel
theorem dX12_laysRow_10 : decode cX12_laysRow 10 = .ok (.aload_n 0, 1) := by decide +kernel
theorem dX12_laysRow_11 : decode cX12_laysRow 11 = .ok (.iconst 0, 1) := by decide +kernel
theorem dX12_laysRow_12 : decode cX12_laysRow 12 = .ok (.iload_n 1, 1) := by decide +kernel
theorem dX12_laysRow_13 : decode cX12_laysRow 13 = .ok (.invokevirtual 292, 3) := by decide +kernel
theorem dX12_laysRow_16 : decode cX12_laysRow 16 = .ok (.putfield 304, 3) := by decide +kernel
theorem dX12_laysRow_19 : decode cX12_laysRow 19 = .ok (.iconst 0, 1) := by decide +kernel
theorem dX12_laysRow_20 : decode cX12_laysRow 20 = .ok (.istore_n 2, 1) := by decide +kernel
theorem dX12_laysRow_21 : decode cX12_laysRow 21 = .ok (.iload_n 2, 1) := by decide +kernel
theorem dX12_laysRow_22 : decode cX12_laysRow 22 = .ok (.aload_n 0, 1) := by decide +kernel
theorem dX12_laysRow_23 : decode cX12_laysRow 23 = .ok (.getfield 304, 3) := by decide +kernel
theorem dX12_laysRow_26 : decode cX12_laysRow 26 = .ok (.if_icmp .ge 39, 3) := by decide +kernel
theorem dX12_laysRow_29 : decode cX12_laysRow 29 = .ok (.aload_n 0, 1) := by decide +kernel
theorem dX12_laysRow_30 : decode cX12_laysRow 30 = .ok (.getfield 100, 3) := by decide +kernel
theorem dX12_laysRow_33 : decode cX12_laysRow 33 = .ok (.iload_n 2, 1) := by decide +kernel
theorem dX12_laysRow_34 : decode cX12_laysRow 34 = .ok (.aload_n 0, 1) := by decide +kernel
theorem dX12_laysRow_35 : decode cX12_laysRow 35 = .ok (.aload_n 0, 1) := by decide +kernel
theorem dX12_laysRow_36 : decode cX12_laysRow 36 = .ok (.getfield 93, 3) := by decide +kernel
theorem dX12_laysRow_39 : decode cX12_laysRow 39 = .ok (.iconst 0, 1) := by decide +kernel
theorem dX12_laysRow_40 : decode cX12_laysRow 40 = .ok (.iload_n 1, 1) := by decide +kernel
theorem dX12_laysRow_41 : decode cX12_laysRow 41 = .ok (.iload_n 2, 1) := by decide +kernel
theorem dX12_laysRow_42 : decode cX12_laysRow 42 = .ok (.invokestatic 307, 3) := by decide +kernel
theorem dX12_laysRow_45 : decode cX12_laysRow 45 = .ok (.iaload, 1) := by decide +kernel
theorem dX12_laysRow_46 : decode cX12_laysRow 46 = .ok (.iload_n 2, 1) := by decide +kernel
theorem dX12_laysRow_47 : decode cX12_laysRow 47 = .ok (.aload_n 0, 1) := by decide +kernel
theorem dX12_laysRow_48 : decode cX12_laysRow 48 = .ok (.getfield 304, 3) := by decide +kernel
theorem dX12_laysRow_51 : decode cX12_laysRow 51 = .ok (.aload_n 0, 1) := by decide +kernel
theorem dX12_laysRow_52 : decode cX12_laysRow 52 = .ok (.getfield 301, 3) := by decide +kernel
theorem dX12_laysRow_55 : decode cX12_laysRow 55 = .ok (.invokevirtual 310, 3) := by decide +kernel
theorem dX12_laysRow_58 : decode cX12_laysRow 58 = .ok (.iastore, 1) := by decide +kernel
theorem dX12_laysRow_59 : decode cX12_laysRow 59 = .ok (.iinc 2 1, 3) := by decide +kernel
theorem dX12_laysRow_62 : decode cX12_laysRow 62 = .ok (.goto (-41), 3) := by decide +kernel
theorem dX12_laysRow_65 : decode cX12_laysRow 65 = .ok (.return_, 1) := by decide +kernel
theorem dX12_follows_0 : decode cX12_follows 0 = .ok (.aload_n 0, 1) := by decide +kernel
theorem dX12_follows_1 : decode cX12_follows 1 = .ok (.getfield 301, 3) := by decide +kernel
theorem dX12_follows_4 : decode cX12_follows 4 = .ok (.tableswitch 61 1 3 #[28, 39, 50], 28) := by decide +kernel
theorem dX12_follows_32 : decode cX12_follows 32 = .ok (.iload_n 1, 1) := by decide +kernel
theorem dX12_follows_33 : decode cX12_follows 33 = .ok (.iload_n 2, 1) := by decide +kernel
theorem dX12_follows_34 : decode cX12_follows 34 = .ok (.if_icmp .lt 7, 3) := by decide +kernel
theorem dX12_follows_37 : decode cX12_follows 37 = .ok (.iconst 1, 1) := by decide +kernel
theorem dX12_follows_38 : decode cX12_follows 38 = .ok (.goto 4, 3) := by decide +kernel
theorem dX12_follows_41 : decode cX12_follows 41 = .ok (.iconst 0, 1) := by decide +kernel
theorem dX12_follows_42 : decode cX12_follows 42 = .ok (.ireturn, 1) := by decide +kernel
theorem dX12_follows_43 : decode cX12_follows 43 = .ok (.iload_n 1, 1) := by decide +kernel
theorem dX12_follows_44 : decode cX12_follows 44 = .ok (.iload_n 2, 1) := by decide +kernel
theorem dX12_follows_45 : decode cX12_follows 45 = .ok (.if_icmp .ge 7, 3) := by decide +kernel
theorem dX12_follows_48 : decode cX12_follows 48 = .ok (.iconst 1, 1) := by decide +kernel
theorem dX12_follows_49 : decode cX12_follows 49 = .ok (.goto 4, 3) := by decide +kernel
theorem dX12_follows_52 : decode cX12_follows 52 = .ok (.iconst 0, 1) := by decide +kernel
theorem dX12_follows_53 : decode cX12_follows 53 = .ok (.ireturn, 1) := by decide +kernel
theorem dX12_follows_54 : decode cX12_follows 54 = .ok (.iload_n 1, 1) := by decide +kernel
theorem dX12_follows_55 : decode cX12_follows 55 = .ok (.iload_n 2, 1) := by decide +kernel
theorem dX12_follows_56 : decode cX12_follows 56 = .ok (.if_icmp .gt 7, 3) := by decide +kernel
theorem dX12_follows_59 : decode cX12_follows 59 = .ok (.iconst 1, 1) := by decide +kernel
theorem dX12_follows_60 : decode cX12_follows 60 = .ok (.goto 4, 3) := by decide +kernel
theorem dX12_follows_63 : decode cX12_follows 63 = .ok (.iconst 0, 1) := by decide +kernel
theorem dX12_follows_64 : decode cX12_follows 64 = .ok (.ireturn, 1) := by decide +kernel
theorem dX12_follows_65 : decode cX12_follows 65 = .ok (.iload_n 1, 1) := by decide +kernel
theorem dX12_follows_66 : decode cX12_follows 66 = .ok (.iload_n 2, 1) := by decide +kernel
theorem dX12_follows_67 : decode cX12_follows 67 = .ok (.if_icmp .le 7, 3) := by decide +kernel
theorem dX12_follows_70 : decode cX12_follows 70 = .ok (.iconst 1, 1) := by decide +kernel
theorem dX12_follows_71 : decode cX12_follows 71 = .ok (.goto 4, 3) := by decide +kernel
theorem dX12_follows_74 : decode cX12_follows 74 = .ok (.iconst 0, 1) := by decide +kernel
theorem dX12_follows_75 : decode cX12_follows 75 = .ok (.ireturn, 1) := by decide +kernel
theorem dX12_longAt_0 : decode cX12_longAt 0 = .ok (.aload_n 0, 1) := by decide +kernel
theorem dX12_longAt_1 : decode cX12_longAt 1 = .ok (.getfield 103, 3) := by decide +kernel
theorem dX12_longAt_4 : decode cX12_longAt 4 = .ok (.bipush 21, 2) := by decide +kernel
theorem dX12_longAt_6 : decode cX12_longAt 6 = .ok (.iload_n 1, 1) := by decide +kernel
theorem dX12_longAt_7 : decode cX12_longAt 7 = .ok (.imul, 1) := by decide +kernel
theorem dX12_longAt_8 : decode cX12_longAt 8 = .ok (.iload_n 2, 1) := by decide +kernel
theorem dX12_longAt_9 : decode cX12_longAt 9 = .ok (.iadd, 1) := by decide +kernel
theorem dX12_longAt_10 : decode cX12_longAt 10 = .ok (.iaload, 1) := by decide +kernel
theorem dX12_longAt_11 : decode cX12_longAt 11 = .ok (.ireturn, 1) := by decide +kernel
theorem dX12_findsEnding_0 : decode cX12_findsEnding 0 = .ok (.iload_n 1, 1) := by decide +kernel
theorem dX12_findsEnding_1 : decode cX12_findsEnding 1 = .ok (.istore_n 3, 1) := by decide +kernel
theorem dX12_findsEnding_2 : decode cX12_findsEnding 2 = .ok (.iload_n 3, 1) := by decide +kernel
theorem dX12_findsEnding_3 : decode cX12_findsEnding 3 = .ok (.iload_n 2, 1) := by decide +kernel
theorem dX12_findsEnding_4 : decode cX12_findsEnding 4 = .ok (.if_icmp .ge 175, 3) := by decide +kernel
theorem dX12_findsEnding_7 : decode cX12_findsEnding 7 = .ok (.aload_n 0, 1) := by decide +kernel
theorem dX12_findsEnding_8 : decode cX12_findsEnding 8 = .ok (.getfield 106, 3) := by decide +kernel
theorem dX12_findsEnding_11 : decode cX12_findsEnding 11 = .ok (.iload_n 3, 1) := by decide +kernel
theorem dX12_findsEnding_12 : decode cX12_findsEnding 12 = .ok (.iconst 1, 1) := by decide +kernel
theorem dX12_findsEnding_13 : decode cX12_findsEnding 13 = .ok (.iastore, 1) := by decide +kernel
theorem dX12_findsEnding_14 : decode cX12_findsEnding 14 = .ok (.aload_n 0, 1) := by decide +kernel
theorem dX12_findsEnding_15 : decode cX12_findsEnding 15 = .ok (.getfield 112, 3) := by decide +kernel
theorem dX12_findsEnding_18 : decode cX12_findsEnding 18 = .ok (.iload_n 3, 1) := by decide +kernel
theorem dX12_findsEnding_19 : decode cX12_findsEnding 19 = .ok (.lconst 1, 1) := by decide +kernel
theorem dX12_findsEnding_20 : decode cX12_findsEnding 20 = .ok (.lastore, 1) := by decide +kernel
theorem dX12_findsEnding_21 : decode cX12_findsEnding 21 = .ok (.iload_n 1, 1) := by decide +kernel
theorem dX12_findsEnding_22 : decode cX12_findsEnding 22 = .ok (.istore 4, 2) := by decide +kernel
theorem dX12_findsEnding_24 : decode cX12_findsEnding 24 = .ok (.iload 4, 2) := by decide +kernel
theorem dX12_findsEnding_26 : decode cX12_findsEnding 26 = .ok (.iload_n 3, 1) := by decide +kernel
theorem dX12_findsEnding_27 : decode cX12_findsEnding 27 = .ok (.if_icmp .ge 146, 3) := by decide +kernel
theorem dX12_findsEnding_30 : decode cX12_findsEnding 30 = .ok (.aload_n 0, 1) := by decide +kernel
theorem dX12_findsEnding_31 : decode cX12_findsEnding 31 = .ok (.aload_n 0, 1) := by decide +kernel
theorem dX12_findsEnding_32 : decode cX12_findsEnding 32 = .ok (.getfield 100, 3) := by decide +kernel
theorem dX12_findsEnding_35 : decode cX12_findsEnding 35 = .ok (.iload_n 3, 1) := by decide +kernel
theorem dX12_findsEnding_36 : decode cX12_findsEnding 36 = .ok (.iaload, 1) := by decide +kernel
theorem dX12_findsEnding_37 : decode cX12_findsEnding 37 = .ok (.aload_n 0, 1) := by decide +kernel
theorem dX12_findsEnding_38 : decode cX12_findsEnding 38 = .ok (.getfield 100, 3) := by decide +kernel
theorem dX12_findsEnding_41 : decode cX12_findsEnding 41 = .ok (.iload 4, 2) := by decide +kernel
theorem dX12_findsEnding_43 : decode cX12_findsEnding 43 = .ok (.iaload, 1) := by decide +kernel
theorem dX12_findsEnding_44 : decode cX12_findsEnding 44 = .ok (.invokevirtual 314, 3) := by decide +kernel
theorem dX12_findsEnding_47 : decode cX12_findsEnding 47 = .ok (.ifCond .eq 120, 3) := by decide +kernel
theorem dX12_findsEnding_50 : decode cX12_findsEnding 50 = .ok (.aload_n 0, 1) := by decide +kernel
theorem dX12_findsEnding_51 : decode cX12_findsEnding 51 = .ok (.getfield 112, 3) := by decide +kernel
theorem dX12_findsEnding_54 : decode cX12_findsEnding 54 = .ok (.iload_n 3, 1) := by decide +kernel
theorem dX12_findsEnding_55 : decode cX12_findsEnding 55 = .ok (.aload_n 0, 1) := by decide +kernel
theorem dX12_findsEnding_56 : decode cX12_findsEnding 56 = .ok (.getfield 106, 3) := by decide +kernel
theorem dX12_findsEnding_59 : decode cX12_findsEnding 59 = .ok (.iload 4, 2) := by decide +kernel
theorem dX12_findsEnding_61 : decode cX12_findsEnding 61 = .ok (.iaload, 1) := by decide +kernel
theorem dX12_findsEnding_62 : decode cX12_findsEnding 62 = .ok (.iconst 1, 1) := by decide +kernel
theorem dX12_findsEnding_63 : decode cX12_findsEnding 63 = .ok (.iadd, 1) := by decide +kernel
theorem dX12_findsEnding_64 : decode cX12_findsEnding 64 = .ok (.aload_n 0, 1) := by decide +kernel
theorem dX12_findsEnding_65 : decode cX12_findsEnding 65 = .ok (.getfield 106, 3) := by decide +kernel
theorem dX12_findsEnding_68 : decode cX12_findsEnding 68 = .ok (.iload_n 3, 1) := by decide +kernel
theorem dX12_findsEnding_69 : decode cX12_findsEnding 69 = .ok (.iaload, 1) := by decide +kernel
theorem dX12_findsEnding_70 : decode cX12_findsEnding 70 = .ok (.if_icmp .le 13, 3) := by decide +kernel
theorem dX12_findsEnding_73 : decode cX12_findsEnding 73 = .ok (.aload_n 0, 1) := by decide +kernel
theorem dX12_findsEnding_74 : decode cX12_findsEnding 74 = .ok (.getfield 112, 3) := by decide +kernel
theorem dX12_findsEnding_77 : decode cX12_findsEnding 77 = .ok (.iload 4, 2) := by decide +kernel
theorem dX12_findsEnding_79 : decode cX12_findsEnding 79 = .ok (.laload, 1) := by decide +kernel
theorem dX12_findsEnding_80 : decode cX12_findsEnding 80 = .ok (.goto 44, 3) := by decide +kernel
theorem dX12_findsEnding_83 : decode cX12_findsEnding 83 = .ok (.aload_n 0, 1) := by decide +kernel
theorem dX12_findsEnding_84 : decode cX12_findsEnding 84 = .ok (.getfield 106, 3) := by decide +kernel
theorem dX12_findsEnding_87 : decode cX12_findsEnding 87 = .ok (.iload 4, 2) := by decide +kernel
theorem dX12_findsEnding_89 : decode cX12_findsEnding 89 = .ok (.iaload, 1) := by decide +kernel
theorem dX12_findsEnding_90 : decode cX12_findsEnding 90 = .ok (.iconst 1, 1) := by decide +kernel
theorem dX12_findsEnding_91 : decode cX12_findsEnding 91 = .ok (.iadd, 1) := by decide +kernel
theorem dX12_findsEnding_92 : decode cX12_findsEnding 92 = .ok (.aload_n 0, 1) := by decide +kernel
theorem dX12_findsEnding_93 : decode cX12_findsEnding 93 = .ok (.getfield 106, 3) := by decide +kernel
theorem dX12_findsEnding_96 : decode cX12_findsEnding 96 = .ok (.iload_n 3, 1) := by decide +kernel
theorem dX12_findsEnding_97 : decode cX12_findsEnding 97 = .ok (.iaload, 1) := by decide +kernel
theorem dX12_findsEnding_98 : decode cX12_findsEnding 98 = .ok (.if_icmp .ne 20, 3) := by decide +kernel
theorem dX12_findsEnding_101 : decode cX12_findsEnding 101 = .ok (.aload_n 0, 1) := by decide +kernel
theorem dX12_findsEnding_102 : decode cX12_findsEnding 102 = .ok (.getfield 112, 3) := by decide +kernel
theorem dX12_findsEnding_105 : decode cX12_findsEnding 105 = .ok (.iload_n 3, 1) := by decide +kernel
theorem dX12_findsEnding_106 : decode cX12_findsEnding 106 = .ok (.laload, 1) := by decide +kernel
theorem dX12_findsEnding_107 : decode cX12_findsEnding 107 = .ok (.aload_n 0, 1) := by decide +kernel
theorem dX12_findsEnding_108 : decode cX12_findsEnding 108 = .ok (.getfield 112, 3) := by decide +kernel
theorem dX12_findsEnding_111 : decode cX12_findsEnding 111 = .ok (.iload 4, 2) := by decide +kernel
theorem dX12_findsEnding_113 : decode cX12_findsEnding 113 = .ok (.laload, 1) := by decide +kernel
theorem dX12_findsEnding_114 : decode cX12_findsEnding 114 = .ok (.ladd, 1) := by decide +kernel
theorem dX12_findsEnding_115 : decode cX12_findsEnding 115 = .ok (.goto 9, 3) := by decide +kernel
theorem dX12_findsEnding_118 : decode cX12_findsEnding 118 = .ok (.aload_n 0, 1) := by decide +kernel
theorem dX12_findsEnding_119 : decode cX12_findsEnding 119 = .ok (.getfield 112, 3) := by decide +kernel
theorem dX12_findsEnding_122 : decode cX12_findsEnding 122 = .ok (.iload_n 3, 1) := by decide +kernel
theorem dX12_findsEnding_123 : decode cX12_findsEnding 123 = .ok (.laload, 1) := by decide +kernel
theorem dX12_findsEnding_124 : decode cX12_findsEnding 124 = .ok (.lastore, 1) := by decide +kernel
theorem dX12_findsEnding_125 : decode cX12_findsEnding 125 = .ok (.aload_n 0, 1) := by decide +kernel
theorem dX12_findsEnding_126 : decode cX12_findsEnding 126 = .ok (.getfield 106, 3) := by decide +kernel
theorem dX12_findsEnding_129 : decode cX12_findsEnding 129 = .ok (.iload_n 3, 1) := by decide +kernel
theorem dX12_findsEnding_130 : decode cX12_findsEnding 130 = .ok (.aload_n 0, 1) := by decide +kernel
theorem dX12_findsEnding_131 : decode cX12_findsEnding 131 = .ok (.getfield 106, 3) := by decide +kernel
theorem dX12_findsEnding_134 : decode cX12_findsEnding 134 = .ok (.iload 4, 2) := by decide +kernel
theorem dX12_findsEnding_136 : decode cX12_findsEnding 136 = .ok (.iaload, 1) := by decide +kernel
theorem dX12_findsEnding_137 : decode cX12_findsEnding 137 = .ok (.iconst 1, 1) := by decide +kernel
theorem dX12_findsEnding_138 : decode cX12_findsEnding 138 = .ok (.iadd, 1) := by decide +kernel
theorem dX12_findsEnding_139 : decode cX12_findsEnding 139 = .ok (.aload_n 0, 1) := by decide +kernel
theorem dX12_findsEnding_140 : decode cX12_findsEnding 140 = .ok (.getfield 106, 3) := by decide +kernel
theorem dX12_findsEnding_143 : decode cX12_findsEnding 143 = .ok (.iload_n 3, 1) := by decide +kernel
theorem dX12_findsEnding_144 : decode cX12_findsEnding 144 = .ok (.iaload, 1) := by decide +kernel
theorem dX12_findsEnding_145 : decode cX12_findsEnding 145 = .ok (.if_icmp .le 15, 3) := by decide +kernel
theorem dX12_findsEnding_148 : decode cX12_findsEnding 148 = .ok (.aload_n 0, 1) := by decide +kernel
theorem dX12_findsEnding_149 : decode cX12_findsEnding 149 = .ok (.getfield 106, 3) := by decide +kernel
theorem dX12_findsEnding_152 : decode cX12_findsEnding 152 = .ok (.iload 4, 2) := by decide +kernel
theorem dX12_findsEnding_154 : decode cX12_findsEnding 154 = .ok (.iaload, 1) := by decide +kernel
theorem dX12_findsEnding_155 : decode cX12_findsEnding 155 = .ok (.iconst 1, 1) := by decide +kernel
theorem dX12_findsEnding_156 : decode cX12_findsEnding 156 = .ok (.iadd, 1) := by decide +kernel
theorem dX12_findsEnding_157 : decode cX12_findsEnding 157 = .ok (.goto 9, 3) := by decide +kernel
theorem dX12_findsEnding_160 : decode cX12_findsEnding 160 = .ok (.aload_n 0, 1) := by decide +kernel
theorem dX12_findsEnding_161 : decode cX12_findsEnding 161 = .ok (.getfield 106, 3) := by decide +kernel
theorem dX12_findsEnding_164 : decode cX12_findsEnding 164 = .ok (.iload_n 3, 1) := by decide +kernel
theorem dX12_findsEnding_165 : decode cX12_findsEnding 165 = .ok (.iaload, 1) := by decide +kernel
theorem dX12_findsEnding_166 : decode cX12_findsEnding 166 = .ok (.iastore, 1) := by decide +kernel
theorem dX12_findsEnding_167 : decode cX12_findsEnding 167 = .ok (.iinc 4 1, 3) := by decide +kernel
theorem dX12_findsEnding_170 : decode cX12_findsEnding 170 = .ok (.goto (-146), 3) := by decide +kernel
theorem dX12_findsEnding_173 : decode cX12_findsEnding 173 = .ok (.iinc 3 1, 3) := by decide +kernel
theorem dX12_findsEnding_176 : decode cX12_findsEnding 176 = .ok (.goto (-174), 3) := by decide +kernel
theorem dX12_findsEnding_179 : decode cX12_findsEnding 179 = .ok (.return_, 1) := by decide +kernel
theorem dX12_findsStarting_0 : decode cX12_findsStarting 0 = .ok (.iload_n 2, 1) := by decide +kernel
theorem dX12_findsStarting_1 : decode cX12_findsStarting 1 = .ok (.iconst 1, 1) := by decide +kernel
theorem dX12_findsStarting_2 : decode cX12_findsStarting 2 = .ok (.isub, 1) := by decide +kernel
theorem dX12_findsStarting_3 : decode cX12_findsStarting 3 = .ok (.istore_n 3, 1) := by decide +kernel
theorem dX12_findsStarting_4 : decode cX12_findsStarting 4 = .ok (.iload_n 3, 1) := by decide +kernel
theorem dX12_findsStarting_5 : decode cX12_findsStarting 5 = .ok (.iload_n 1, 1) := by decide +kernel
theorem dX12_findsStarting_6 : decode cX12_findsStarting 6 = .ok (.if_icmp .lt 95, 3) := by decide +kernel
theorem dX12_findsStarting_9 : decode cX12_findsStarting 9 = .ok (.aload_n 0, 1) := by decide +kernel
theorem dX12_findsStarting_10 : decode cX12_findsStarting 10 = .ok (.getfield 109, 3) := by decide +kernel
theorem dX12_findsStarting_13 : decode cX12_findsStarting 13 = .ok (.iload_n 3, 1) := by decide +kernel
theorem dX12_findsStarting_14 : decode cX12_findsStarting 14 = .ok (.iconst 1, 1) := by decide +kernel
theorem dX12_findsStarting_15 : decode cX12_findsStarting 15 = .ok (.iastore, 1) := by decide +kernel
theorem dX12_findsStarting_16 : decode cX12_findsStarting 16 = .ok (.iload_n 3, 1) := by decide +kernel
theorem dX12_findsStarting_17 : decode cX12_findsStarting 17 = .ok (.iconst 1, 1) := by decide +kernel
theorem dX12_findsStarting_18 : decode cX12_findsStarting 18 = .ok (.iadd, 1) := by decide +kernel
theorem dX12_findsStarting_19 : decode cX12_findsStarting 19 = .ok (.istore 4, 2) := by decide +kernel
theorem dX12_findsStarting_21 : decode cX12_findsStarting 21 = .ok (.iload 4, 2) := by decide +kernel
theorem dX12_findsStarting_23 : decode cX12_findsStarting 23 = .ok (.iload_n 2, 1) := by decide +kernel
theorem dX12_findsStarting_24 : decode cX12_findsStarting 24 = .ok (.if_icmp .ge 71, 3) := by decide +kernel
theorem dX12_findsStarting_27 : decode cX12_findsStarting 27 = .ok (.aload_n 0, 1) := by decide +kernel
theorem dX12_findsStarting_28 : decode cX12_findsStarting 28 = .ok (.getfield 109, 3) := by decide +kernel
theorem dX12_findsStarting_31 : decode cX12_findsStarting 31 = .ok (.iload_n 3, 1) := by decide +kernel
theorem dX12_findsStarting_32 : decode cX12_findsStarting 32 = .ok (.aload_n 0, 1) := by decide +kernel
theorem dX12_findsStarting_33 : decode cX12_findsStarting 33 = .ok (.aload_n 0, 1) := by decide +kernel
theorem dX12_findsStarting_34 : decode cX12_findsStarting 34 = .ok (.getfield 100, 3) := by decide +kernel
theorem dX12_findsStarting_37 : decode cX12_findsStarting 37 = .ok (.iload 4, 2) := by decide +kernel
theorem dX12_findsStarting_39 : decode cX12_findsStarting 39 = .ok (.iaload, 1) := by decide +kernel
theorem dX12_findsStarting_40 : decode cX12_findsStarting 40 = .ok (.aload_n 0, 1) := by decide +kernel
theorem dX12_findsStarting_41 : decode cX12_findsStarting 41 = .ok (.getfield 100, 3) := by decide +kernel
theorem dX12_findsStarting_44 : decode cX12_findsStarting 44 = .ok (.iload_n 3, 1) := by decide +kernel
theorem dX12_findsStarting_45 : decode cX12_findsStarting 45 = .ok (.iaload, 1) := by decide +kernel
theorem dX12_findsStarting_46 : decode cX12_findsStarting 46 = .ok (.invokevirtual 314, 3) := by decide +kernel
theorem dX12_findsStarting_49 : decode cX12_findsStarting 49 = .ok (.ifCond .eq 33, 3) := by decide +kernel
theorem dX12_findsStarting_52 : decode cX12_findsStarting 52 = .ok (.aload_n 0, 1) := by decide +kernel
theorem dX12_findsStarting_53 : decode cX12_findsStarting 53 = .ok (.getfield 109, 3) := by decide +kernel
theorem dX12_findsStarting_56 : decode cX12_findsStarting 56 = .ok (.iload 4, 2) := by decide +kernel
theorem dX12_findsStarting_58 : decode cX12_findsStarting 58 = .ok (.iaload, 1) := by decide +kernel
theorem dX12_findsStarting_59 : decode cX12_findsStarting 59 = .ok (.iconst 1, 1) := by decide +kernel
theorem dX12_findsStarting_60 : decode cX12_findsStarting 60 = .ok (.iadd, 1) := by decide +kernel
theorem dX12_findsStarting_61 : decode cX12_findsStarting 61 = .ok (.aload_n 0, 1) := by decide +kernel
theorem dX12_findsStarting_62 : decode cX12_findsStarting 62 = .ok (.getfield 109, 3) := by decide +kernel
theorem dX12_findsStarting_65 : decode cX12_findsStarting 65 = .ok (.iload_n 3, 1) := by decide +kernel
theorem dX12_findsStarting_66 : decode cX12_findsStarting 66 = .ok (.iaload, 1) := by decide +kernel
theorem dX12_findsStarting_67 : decode cX12_findsStarting 67 = .ok (.if_icmp .le 15, 3) := by decide +kernel
theorem dX12_findsStarting_70 : decode cX12_findsStarting 70 = .ok (.aload_n 0, 1) := by decide +kernel
theorem dX12_findsStarting_71 : decode cX12_findsStarting 71 = .ok (.getfield 109, 3) := by decide +kernel
theorem dX12_findsStarting_74 : decode cX12_findsStarting 74 = .ok (.iload 4, 2) := by decide +kernel
theorem dX12_findsStarting_76 : decode cX12_findsStarting 76 = .ok (.iaload, 1) := by decide +kernel
theorem dX12_findsStarting_77 : decode cX12_findsStarting 77 = .ok (.iconst 1, 1) := by decide +kernel
theorem dX12_findsStarting_78 : decode cX12_findsStarting 78 = .ok (.iadd, 1) := by decide +kernel
theorem dX12_findsStarting_79 : decode cX12_findsStarting 79 = .ok (.goto 9, 3) := by decide +kernel
theorem dX12_findsStarting_82 : decode cX12_findsStarting 82 = .ok (.aload_n 0, 1) := by decide +kernel
theorem dX12_findsStarting_83 : decode cX12_findsStarting 83 = .ok (.getfield 109, 3) := by decide +kernel
theorem dX12_findsStarting_86 : decode cX12_findsStarting 86 = .ok (.iload_n 3, 1) := by decide +kernel
theorem dX12_findsStarting_87 : decode cX12_findsStarting 87 = .ok (.iaload, 1) := by decide +kernel
theorem dX12_findsStarting_88 : decode cX12_findsStarting 88 = .ok (.iastore, 1) := by decide +kernel
theorem dX12_findsStarting_89 : decode cX12_findsStarting 89 = .ok (.iinc 4 1, 3) := by decide +kernel
theorem dX12_findsStarting_92 : decode cX12_findsStarting 92 = .ok (.goto (-71), 3) := by decide +kernel
theorem dX12_findsStarting_95 : decode cX12_findsStarting 95 = .ok (.iinc 3 (-1), 3) := by decide +kernel
theorem dX12_findsStarting_98 : decode cX12_findsStarting 98 = .ok (.goto (-94), 3) := by decide +kernel
theorem dX12_findsStarting_101 : decode cX12_findsStarting 101 = .ok (.return_, 1) := by decide +kernel
theorem dX12_findsLongs_0 : decode cX12_findsLongs 0 = .ok (.iconst 0, 1) := by decide +kernel
theorem dX12_findsLongs_1 : decode cX12_findsLongs 1 = .ok (.istore_n 1, 1) := by decide +kernel
theorem dX12_findsLongs_2 : decode cX12_findsLongs 2 = .ok (.iload_n 1, 1) := by decide +kernel
theorem dX12_findsLongs_3 : decode cX12_findsLongs 3 = .ok (.aload_n 0, 1) := by decide +kernel
theorem dX12_findsLongs_4 : decode cX12_findsLongs 4 = .ok (.getfield 304, 3) := by decide +kernel
theorem dX12_findsLongs_7 : decode cX12_findsLongs 7 = .ok (.if_icmp .gt 92, 3) := by decide +kernel
theorem dX12_findsLongs_10 : decode cX12_findsLongs 10 = .ok (.aload_n 0, 1) := by decide +kernel
theorem dX12_findsLongs_11 : decode cX12_findsLongs 11 = .ok (.iload_n 1, 1) := by decide +kernel
theorem dX12_findsLongs_12 : decode cX12_findsLongs 12 = .ok (.aload_n 0, 1) := by decide +kernel
theorem dX12_findsLongs_13 : decode cX12_findsLongs 13 = .ok (.getfield 304, 3) := by decide +kernel
theorem dX12_findsLongs_16 : decode cX12_findsLongs 16 = .ok (.invokevirtual 318, 3) := by decide +kernel
theorem dX12_findsLongs_19 : decode cX12_findsLongs 19 = .ok (.aload_n 0, 1) := by decide +kernel
theorem dX12_findsLongs_20 : decode cX12_findsLongs 20 = .ok (.getfield 103, 3) := by decide +kernel
theorem dX12_findsLongs_23 : decode cX12_findsLongs 23 = .ok (.bipush 21, 2) := by decide +kernel
theorem dX12_findsLongs_25 : decode cX12_findsLongs 25 = .ok (.iload_n 1, 1) := by decide +kernel
theorem dX12_findsLongs_26 : decode cX12_findsLongs 26 = .ok (.imul, 1) := by decide +kernel
theorem dX12_findsLongs_27 : decode cX12_findsLongs 27 = .ok (.iload_n 1, 1) := by decide +kernel
theorem dX12_findsLongs_28 : decode cX12_findsLongs 28 = .ok (.iadd, 1) := by decide +kernel
theorem dX12_findsLongs_29 : decode cX12_findsLongs 29 = .ok (.iconst 0, 1) := by decide +kernel
theorem dX12_findsLongs_30 : decode cX12_findsLongs 30 = .ok (.iastore, 1) := by decide +kernel
theorem dX12_findsLongs_31 : decode cX12_findsLongs 31 = .ok (.iload_n 1, 1) := by decide +kernel
theorem dX12_findsLongs_32 : decode cX12_findsLongs 32 = .ok (.iconst 1, 1) := by decide +kernel
theorem dX12_findsLongs_33 : decode cX12_findsLongs 33 = .ok (.iadd, 1) := by decide +kernel
theorem dX12_findsLongs_34 : decode cX12_findsLongs 34 = .ok (.istore_n 2, 1) := by decide +kernel
theorem dX12_findsLongs_35 : decode cX12_findsLongs 35 = .ok (.iload_n 2, 1) := by decide +kernel
theorem dX12_findsLongs_36 : decode cX12_findsLongs 36 = .ok (.aload_n 0, 1) := by decide +kernel
theorem dX12_findsLongs_37 : decode cX12_findsLongs 37 = .ok (.getfield 304, 3) := by decide +kernel
theorem dX12_findsLongs_40 : decode cX12_findsLongs 40 = .ok (.if_icmp .gt 53, 3) := by decide +kernel
theorem dX12_findsLongs_43 : decode cX12_findsLongs 43 = .ok (.aload_n 0, 1) := by decide +kernel
theorem dX12_findsLongs_44 : decode cX12_findsLongs 44 = .ok (.iload_n 1, 1) := by decide +kernel
theorem dX12_findsLongs_45 : decode cX12_findsLongs 45 = .ok (.iload_n 2, 1) := by decide +kernel
theorem dX12_findsLongs_46 : decode cX12_findsLongs 46 = .ok (.iconst 1, 1) := by decide +kernel
theorem dX12_findsLongs_47 : decode cX12_findsLongs 47 = .ok (.isub, 1) := by decide +kernel
theorem dX12_findsLongs_48 : decode cX12_findsLongs 48 = .ok (.invokevirtual 321, 3) := by decide +kernel
theorem dX12_findsLongs_51 : decode cX12_findsLongs 51 = .ok (.istore_n 3, 1) := by decide +kernel
theorem dX12_findsLongs_52 : decode cX12_findsLongs 52 = .ok (.aload_n 0, 1) := by decide +kernel
theorem dX12_findsLongs_53 : decode cX12_findsLongs 53 = .ok (.getfield 103, 3) := by decide +kernel
theorem dX12_findsLongs_56 : decode cX12_findsLongs 56 = .ok (.bipush 21, 2) := by decide +kernel
theorem dX12_findsLongs_58 : decode cX12_findsLongs 58 = .ok (.iload_n 1, 1) := by decide +kernel
theorem dX12_findsLongs_59 : decode cX12_findsLongs 59 = .ok (.imul, 1) := by decide +kernel
theorem dX12_findsLongs_60 : decode cX12_findsLongs 60 = .ok (.iload_n 2, 1) := by decide +kernel
theorem dX12_findsLongs_61 : decode cX12_findsLongs 61 = .ok (.iadd, 1) := by decide +kernel
theorem dX12_findsLongs_62 : decode cX12_findsLongs 62 = .ok (.aload_n 0, 1) := by decide +kernel
theorem dX12_findsLongs_63 : decode cX12_findsLongs 63 = .ok (.getfield 106, 3) := by decide +kernel
theorem dX12_findsLongs_66 : decode cX12_findsLongs 66 = .ok (.iload_n 2, 1) := by decide +kernel
theorem dX12_findsLongs_67 : decode cX12_findsLongs 67 = .ok (.iconst 1, 1) := by decide +kernel
theorem dX12_findsLongs_68 : decode cX12_findsLongs 68 = .ok (.isub, 1) := by decide +kernel
theorem dX12_findsLongs_69 : decode cX12_findsLongs 69 = .ok (.iaload, 1) := by decide +kernel
theorem dX12_findsLongs_70 : decode cX12_findsLongs 70 = .ok (.iload_n 3, 1) := by decide +kernel
theorem dX12_findsLongs_71 : decode cX12_findsLongs 71 = .ok (.if_icmp .le 14, 3) := by decide +kernel
theorem dX12_findsLongs_74 : decode cX12_findsLongs 74 = .ok (.aload_n 0, 1) := by decide +kernel
theorem dX12_findsLongs_75 : decode cX12_findsLongs 75 = .ok (.getfield 106, 3) := by decide +kernel
theorem dX12_findsLongs_78 : decode cX12_findsLongs 78 = .ok (.iload_n 2, 1) := by decide +kernel
theorem dX12_findsLongs_79 : decode cX12_findsLongs 79 = .ok (.iconst 1, 1) := by decide +kernel
theorem dX12_findsLongs_80 : decode cX12_findsLongs 80 = .ok (.isub, 1) := by decide +kernel
theorem dX12_findsLongs_81 : decode cX12_findsLongs 81 = .ok (.iaload, 1) := by decide +kernel
theorem dX12_findsLongs_82 : decode cX12_findsLongs 82 = .ok (.goto 4, 3) := by decide +kernel
theorem dX12_findsLongs_85 : decode cX12_findsLongs 85 = .ok (.iload_n 3, 1) := by decide +kernel
theorem dX12_findsLongs_86 : decode cX12_findsLongs 86 = .ok (.iastore, 1) := by decide +kernel
theorem dX12_findsLongs_87 : decode cX12_findsLongs 87 = .ok (.iinc 2 1, 3) := by decide +kernel
theorem dX12_findsLongs_90 : decode cX12_findsLongs 90 = .ok (.goto (-55), 3) := by decide +kernel
theorem dX12_findsLongs_93 : decode cX12_findsLongs 93 = .ok (.iinc 1 1, 3) := by decide +kernel
theorem dX12_findsLongs_96 : decode cX12_findsLongs 96 = .ok (.goto (-94), 3) := by decide +kernel
theorem dX12_findsLongs_99 : decode cX12_findsLongs 99 = .ok (.return_, 1) := by decide +kernel
theorem dX12_laysAll_0 : decode cX12_laysAll 0 = .ok (.aload_n 0, 1) := by decide +kernel
theorem dX12_laysAll_1 : decode cX12_laysAll 1 = .ok (.iload_n 1, 1) := by decide +kernel
theorem dX12_laysAll_2 : decode cX12_laysAll 2 = .ok (.invokevirtual 324, 3) := by decide +kernel
theorem dX12_laysAll_5 : decode cX12_laysAll 5 = .ok (.aload_n 0, 1) := by decide +kernel
theorem dX12_laysAll_6 : decode cX12_laysAll 6 = .ok (.invokevirtual 327, 3) := by decide +kernel
theorem dX12_laysAll_9 : decode cX12_laysAll 9 = .ok (.return_, 1) := by decide +kernel
theorem dX12_chain_0 : decode cX12_chain 0 = .ok (.aload_n 0, 1) := by decide +kernel
theorem dX12_chain_1 : decode cX12_chain 1 = .ok (.iconst 0, 1) := by decide +kernel
theorem dX12_chain_2 : decode cX12_chain 2 = .ok (.putfield 1, 3) := by decide +kernel
theorem dX12_chain_5 : decode cX12_chain 5 = .ok (.aload_n 0, 1) := by decide +kernel
theorem dX12_chain_6 : decode cX12_chain 6 = .ok (.iload_n 1, 1) := by decide +kernel
theorem dX12_chain_7 : decode cX12_chain 7 = .ok (.iload_n 2, 1) := by decide +kernel
theorem dX12_chain_8 : decode cX12_chain 8 = .ok (.iload_n 3, 1) := by decide +kernel
theorem dX12_chain_9 : decode cX12_chain 9 = .ok (.invokevirtual 330, 3) := by decide +kernel
theorem dX12_chain_12 : decode cX12_chain 12 = .ok (.ifCond .ne 5, 3) := by decide +kernel
theorem dX12_chain_15 : decode cX12_chain 15 = .ok (.iconst (-1), 1) := by decide +kernel
theorem dX12_chain_16 : decode cX12_chain 16 = .ok (.ireturn, 1) := by decide +kernel
theorem dX12_chain_17 : decode cX12_chain 17 = .ok (.aload_n 0, 1) := by decide +kernel
theorem dX12_chain_18 : decode cX12_chain 18 = .ok (.iload_n 1, 1) := by decide +kernel
theorem dX12_chain_19 : decode cX12_chain 19 = .ok (.invokevirtual 334, 3) := by decide +kernel
theorem dX12_chain_22 : decode cX12_chain 22 = .ok (.aload_n 0, 1) := by decide +kernel
theorem dX12_chain_23 : decode cX12_chain 23 = .ok (.iload_n 2, 1) := by decide +kernel
theorem dX12_chain_24 : decode cX12_chain 24 = .ok (.iload_n 3, 1) := by decide +kernel
theorem dX12_chain_25 : decode cX12_chain 25 = .ok (.invokevirtual 321, 3) := by decide +kernel
theorem dX12_chain_28 : decode cX12_chain 28 = .ok (.ireturn, 1) := by decide +kernel
theorem dX12_pick_0 : decode cX12_pick 0 = .ok (.aload_n 0, 1) := by decide +kernel
theorem dX12_pick_1 : decode cX12_pick 1 = .ok (.iconst 0, 1) := by decide +kernel
theorem dX12_pick_2 : decode cX12_pick 2 = .ok (.putfield 1, 3) := by decide +kernel
theorem dX12_pick_5 : decode cX12_pick 5 = .ok (.aload_n 0, 1) := by decide +kernel
theorem dX12_pick_6 : decode cX12_pick 6 = .ok (.iload_n 1, 1) := by decide +kernel
theorem dX12_pick_7 : decode cX12_pick 7 = .ok (.iload_n 2, 1) := by decide +kernel
theorem dX12_pick_8 : decode cX12_pick 8 = .ok (.iload_n 3, 1) := by decide +kernel
theorem dX12_pick_9 : decode cX12_pick 9 = .ok (.invokevirtual 330, 3) := by decide +kernel
theorem dX12_pick_12 : decode cX12_pick 12 = .ok (.ifCond .ne 5, 3) := by decide +kernel
theorem dX12_pick_15 : decode cX12_pick 15 = .ok (.iconst (-1), 1) := by decide +kernel
theorem dX12_pick_16 : decode cX12_pick 16 = .ok (.ireturn, 1) := by decide +kernel
theorem dX12_pick_17 : decode cX12_pick 17 = .ok (.aload_n 0, 1) := by decide +kernel
theorem dX12_pick_18 : decode cX12_pick 18 = .ok (.iload_n 1, 1) := by decide +kernel
theorem dX12_pick_19 : decode cX12_pick 19 = .ok (.invokevirtual 334, 3) := by decide +kernel
theorem dX12_pick_22 : decode cX12_pick 22 = .ok (.aload_n 0, 1) := by decide +kernel
theorem dX12_pick_23 : decode cX12_pick 23 = .ok (.iload_n 2, 1) := by decide +kernel
theorem dX12_pick_24 : decode cX12_pick 24 = .ok (.iload_n 3, 1) := by decide +kernel
theorem dX12_pick_25 : decode cX12_pick 25 = .ok (.invokevirtual 337, 3) := by decide +kernel
theorem dX12_pick_28 : decode cX12_pick 28 = .ok (.aload_n 0, 1) := by decide +kernel
theorem dX12_pick_29 : decode cX12_pick 29 = .ok (.iload_n 2, 1) := by decide +kernel
theorem dX12_pick_30 : decode cX12_pick 30 = .ok (.iload_n 3, 1) := by decide +kernel
theorem dX12_pick_31 : decode cX12_pick 31 = .ok (.invokevirtual 321, 3) := by decide +kernel
theorem dX12_pick_34 : decode cX12_pick 34 = .ok (.istore 5, 2) := by decide +kernel
theorem dX12_pick_36 : decode cX12_pick 36 = .ok (.iconst (-1), 1) := by decide +kernel
theorem dX12_pick_37 : decode cX12_pick 37 = .ok (.istore 6, 2) := by decide +kernel
theorem dX12_pick_39 : decode cX12_pick 39 = .ok (.iload_n 2, 1) := by decide +kernel
theorem dX12_pick_40 : decode cX12_pick 40 = .ok (.istore 7, 2) := by decide +kernel
theorem dX12_pick_42 : decode cX12_pick 42 = .ok (.iload 7, 2) := by decide +kernel
theorem dX12_pick_44 : decode cX12_pick 44 = .ok (.iload_n 3, 1) := by decide +kernel
theorem dX12_pick_45 : decode cX12_pick 45 = .ok (.if_icmp .ge 110, 3) := by decide +kernel
theorem dX12_pick_48 : decode cX12_pick 48 = .ok (.iload 5, 2) := by decide +kernel
theorem dX12_pick_50 : decode cX12_pick 50 = .ok (.ifCond .le 45, 3) := by decide +kernel
theorem dX12_pick_53 : decode cX12_pick 53 = .ok (.aload_n 0, 1) := by decide +kernel
theorem dX12_pick_54 : decode cX12_pick 54 = .ok (.getfield 109, 3) := by decide +kernel
theorem dX12_pick_57 : decode cX12_pick 57 = .ok (.iload 7, 2) := by decide +kernel
theorem dX12_pick_59 : decode cX12_pick 59 = .ok (.iaload, 1) := by decide +kernel
theorem dX12_pick_60 : decode cX12_pick 60 = .ok (.iload 5, 2) := by decide +kernel
theorem dX12_pick_62 : decode cX12_pick 62 = .ok (.if_icmp .ne 33, 3) := by decide +kernel
theorem dX12_pick_65 : decode cX12_pick 65 = .ok (.iload 6, 2) := by decide +kernel
theorem dX12_pick_67 : decode cX12_pick 67 = .ok (.ifCond .lt 24, 3) := by decide +kernel
theorem dX12_pick_70 : decode cX12_pick 70 = .ok (.aload_n 0, 1) := by decide +kernel
theorem dX12_pick_71 : decode cX12_pick 71 = .ok (.aload_n 0, 1) := by decide +kernel
theorem dX12_pick_72 : decode cX12_pick 72 = .ok (.getfield 100, 3) := by decide +kernel
theorem dX12_pick_75 : decode cX12_pick 75 = .ok (.iload 7, 2) := by decide +kernel
theorem dX12_pick_77 : decode cX12_pick 77 = .ok (.iaload, 1) := by decide +kernel
theorem dX12_pick_78 : decode cX12_pick 78 = .ok (.aload_n 0, 1) := by decide +kernel
theorem dX12_pick_79 : decode cX12_pick 79 = .ok (.getfield 100, 3) := by decide +kernel
theorem dX12_pick_82 : decode cX12_pick 82 = .ok (.iload 6, 2) := by decide +kernel
theorem dX12_pick_84 : decode cX12_pick 84 = .ok (.iaload, 1) := by decide +kernel
theorem dX12_pick_85 : decode cX12_pick 85 = .ok (.invokevirtual 314, 3) := by decide +kernel
theorem dX12_pick_88 : decode cX12_pick 88 = .ok (.ifCond .eq 7, 3) := by decide +kernel
theorem dX12_pick_91 : decode cX12_pick 91 = .ok (.iconst 1, 1) := by decide +kernel
theorem dX12_pick_92 : decode cX12_pick 92 = .ok (.goto 4, 3) := by decide +kernel
theorem dX12_pick_95 : decode cX12_pick 95 = .ok (.iconst 0, 1) := by decide +kernel
theorem dX12_pick_96 : decode cX12_pick 96 = .ok (.istore 8, 2) := by decide +kernel
theorem dX12_pick_98 : decode cX12_pick 98 = .ok (.iload 8, 2) := by decide +kernel
theorem dX12_pick_100 : decode cX12_pick 100 = .ok (.ifCond .eq 20, 3) := by decide +kernel
theorem dX12_pick_103 : decode cX12_pick 103 = .ok (.iload 4, 2) := by decide +kernel
theorem dX12_pick_105 : decode cX12_pick 105 = .ok (.aload_n 0, 1) := by decide +kernel
theorem dX12_pick_106 : decode cX12_pick 106 = .ok (.iload_n 2, 1) := by decide +kernel
theorem dX12_pick_107 : decode cX12_pick 107 = .ok (.iload_n 3, 1) := by decide +kernel
theorem dX12_pick_108 : decode cX12_pick 108 = .ok (.invokevirtual 321, 3) := by decide +kernel
theorem dX12_pick_111 : decode cX12_pick 111 = .ok (.iload 5, 2) := by decide +kernel
theorem dX12_pick_113 : decode cX12_pick 113 = .ok (.isub, 1) := by decide +kernel
theorem dX12_pick_114 : decode cX12_pick 114 = .ok (.if_icmp .ne 6, 3) := by decide +kernel
theorem dX12_pick_117 : decode cX12_pick 117 = .ok (.iload 7, 2) := by decide +kernel
theorem dX12_pick_119 : decode cX12_pick 119 = .ok (.ireturn, 1) := by decide +kernel
theorem dX12_pick_120 : decode cX12_pick 120 = .ok (.iload 8, 2) := by decide +kernel
theorem dX12_pick_122 : decode cX12_pick 122 = .ok (.ifCond .eq 8, 3) := by decide +kernel
theorem dX12_pick_125 : decode cX12_pick 125 = .ok (.iload 7, 2) := by decide +kernel
theorem dX12_pick_127 : decode cX12_pick 127 = .ok (.goto 5, 3) := by decide +kernel
theorem dX12_pick_130 : decode cX12_pick 130 = .ok (.iload 6, 2) := by decide +kernel
theorem dX12_pick_132 : decode cX12_pick 132 = .ok (.istore 6, 2) := by decide +kernel
theorem dX12_pick_134 : decode cX12_pick 134 = .ok (.iload 5, 2) := by decide +kernel
theorem dX12_pick_136 : decode cX12_pick 136 = .ok (.iload 8, 2) := by decide +kernel
theorem dX12_pick_138 : decode cX12_pick 138 = .ok (.ifCond .eq 7, 3) := by decide +kernel
theorem dX12_pick_141 : decode cX12_pick 141 = .ok (.iconst 1, 1) := by decide +kernel
theorem dX12_pick_142 : decode cX12_pick 142 = .ok (.goto 4, 3) := by decide +kernel
theorem dX12_pick_145 : decode cX12_pick 145 = .ok (.iconst 0, 1) := by decide +kernel
theorem dX12_pick_146 : decode cX12_pick 146 = .ok (.isub, 1) := by decide +kernel
theorem dX12_pick_147 : decode cX12_pick 147 = .ok (.istore 5, 2) := by decide +kernel
theorem dX12_pick_149 : decode cX12_pick 149 = .ok (.iinc 7 1, 3) := by decide +kernel
theorem dX12_pick_152 : decode cX12_pick 152 = .ok (.goto (-110), 3) := by decide +kernel
theorem dX12_pick_155 : decode cX12_pick 155 = .ok (.iconst (-1), 1) := by decide +kernel
theorem dX12_pick_156 : decode cX12_pick 156 = .ok (.ireturn, 1) := by decide +kernel
theorem dX12_ways_0 : decode cX12_ways 0 = .ok (.aload_n 0, 1) := by decide +kernel
theorem dX12_ways_1 : decode cX12_ways 1 = .ok (.iconst 0, 1) := by decide +kernel
theorem dX12_ways_2 : decode cX12_ways 2 = .ok (.putfield 1, 3) := by decide +kernel
theorem dX12_ways_5 : decode cX12_ways 5 = .ok (.aload_n 0, 1) := by decide +kernel
theorem dX12_ways_6 : decode cX12_ways 6 = .ok (.iload_n 1, 1) := by decide +kernel
theorem dX12_ways_7 : decode cX12_ways 7 = .ok (.iload_n 2, 1) := by decide +kernel
theorem dX12_ways_8 : decode cX12_ways 8 = .ok (.iload_n 3, 1) := by decide +kernel
theorem dX12_ways_9 : decode cX12_ways 9 = .ok (.invokevirtual 330, 3) := by decide +kernel
theorem dX12_ways_12 : decode cX12_ways 12 = .ok (.ifCond .ne 5, 3) := by decide +kernel
theorem dX12_ways_15 : decode cX12_ways 15 = .ok (.iconst (-1), 1) := by decide +kernel
theorem dX12_ways_16 : decode cX12_ways 16 = .ok (.ireturn, 1) := by decide +kernel
theorem dX12_ways_17 : decode cX12_ways 17 = .ok (.aload_n 0, 1) := by decide +kernel
theorem dX12_ways_18 : decode cX12_ways 18 = .ok (.iload_n 1, 1) := by decide +kernel
theorem dX12_ways_19 : decode cX12_ways 19 = .ok (.invokevirtual 334, 3) := by decide +kernel
theorem dX12_ways_22 : decode cX12_ways 22 = .ok (.aload_n 0, 1) := by decide +kernel
theorem dX12_ways_23 : decode cX12_ways 23 = .ok (.iload_n 2, 1) := by decide +kernel
theorem dX12_ways_24 : decode cX12_ways 24 = .ok (.iload_n 3, 1) := by decide +kernel
theorem dX12_ways_25 : decode cX12_ways 25 = .ok (.invokevirtual 340, 3) := by decide +kernel
theorem dX12_ways_28 : decode cX12_ways 28 = .ok (.ireturn, 1) := by decide +kernel
theorem dX12_waysOf_0 : decode cX12_waysOf 0 = .ok (.aload_n 0, 1) := by decide +kernel
theorem dX12_waysOf_1 : decode cX12_waysOf 1 = .ok (.iload_n 1, 1) := by decide +kernel
theorem dX12_waysOf_2 : decode cX12_waysOf 2 = .ok (.iload_n 2, 1) := by decide +kernel
theorem dX12_waysOf_3 : decode cX12_waysOf 3 = .ok (.invokevirtual 318, 3) := by decide +kernel
theorem dX12_waysOf_6 : decode cX12_waysOf 6 = .ok (.iload_n 1, 1) := by decide +kernel
theorem dX12_waysOf_7 : decode cX12_waysOf 7 = .ok (.iload_n 2, 1) := by decide +kernel
theorem dX12_waysOf_8 : decode cX12_waysOf 8 = .ok (.if_icmp .ne 7, 3) := by decide +kernel
theorem dX12_waysOf_11 : decode cX12_waysOf 11 = .ok (.lconst 1, 1) := by decide +kernel
theorem dX12_waysOf_12 : decode cX12_waysOf 12 = .ok (.goto 4, 3) := by decide +kernel
theorem dX12_waysOf_15 : decode cX12_waysOf 15 = .ok (.lconst 0, 1) := by decide +kernel
theorem dX12_waysOf_16 : decode cX12_waysOf 16 = .ok (.lstore_n 3, 1) := by decide +kernel
theorem dX12_waysOf_17 : decode cX12_waysOf 17 = .ok (.iload_n 1, 1) := by decide +kernel
theorem dX12_waysOf_18 : decode cX12_waysOf 18 = .ok (.istore 5, 2) := by decide +kernel
theorem dX12_waysOf_20 : decode cX12_waysOf 20 = .ok (.iload 5, 2) := by decide +kernel
theorem dX12_waysOf_22 : decode cX12_waysOf 22 = .ok (.iload_n 2, 1) := by decide +kernel
theorem dX12_waysOf_23 : decode cX12_waysOf 23 = .ok (.if_icmp .ge 39, 3) := by decide +kernel
theorem dX12_waysOf_26 : decode cX12_waysOf 26 = .ok (.lload_n 3, 1) := by decide +kernel
theorem dX12_waysOf_27 : decode cX12_waysOf 27 = .ok (.aload_n 0, 1) := by decide +kernel
theorem dX12_waysOf_28 : decode cX12_waysOf 28 = .ok (.getfield 106, 3) := by decide +kernel
theorem dX12_waysOf_31 : decode cX12_waysOf 31 = .ok (.iload 5, 2) := by decide +kernel
theorem dX12_waysOf_33 : decode cX12_waysOf 33 = .ok (.iaload, 1) := by decide +kernel
theorem dX12_waysOf_34 : decode cX12_waysOf 34 = .ok (.aload_n 0, 1) := by decide +kernel
theorem dX12_waysOf_35 : decode cX12_waysOf 35 = .ok (.iload_n 1, 1) := by decide +kernel
theorem dX12_waysOf_36 : decode cX12_waysOf 36 = .ok (.iload_n 2, 1) := by decide +kernel
theorem dX12_waysOf_37 : decode cX12_waysOf 37 = .ok (.invokevirtual 321, 3) := by decide +kernel
theorem dX12_waysOf_40 : decode cX12_waysOf 40 = .ok (.if_icmp .ne 13, 3) := by decide +kernel
theorem dX12_waysOf_43 : decode cX12_waysOf 43 = .ok (.aload_n 0, 1) := by decide +kernel
theorem dX12_waysOf_44 : decode cX12_waysOf 44 = .ok (.getfield 112, 3) := by decide +kernel
theorem dX12_waysOf_47 : decode cX12_waysOf 47 = .ok (.iload 5, 2) := by decide +kernel
theorem dX12_waysOf_49 : decode cX12_waysOf 49 = .ok (.laload, 1) := by decide +kernel
theorem dX12_waysOf_50 : decode cX12_waysOf 50 = .ok (.goto 4, 3) := by decide +kernel
theorem dX12_waysOf_53 : decode cX12_waysOf 53 = .ok (.lconst 0, 1) := by decide +kernel
theorem dX12_waysOf_54 : decode cX12_waysOf 54 = .ok (.ladd, 1) := by decide +kernel
theorem dX12_waysOf_55 : decode cX12_waysOf 55 = .ok (.lstore_n 3, 1) := by decide +kernel
theorem dX12_waysOf_56 : decode cX12_waysOf 56 = .ok (.iinc 5 1, 3) := by decide +kernel
theorem dX12_waysOf_59 : decode cX12_waysOf 59 = .ok (.goto (-39), 3) := by decide +kernel
theorem dX12_waysOf_62 : decode cX12_waysOf 62 = .ok (.lload_n 3, 1) := by decide +kernel
theorem dX12_waysOf_63 : decode cX12_waysOf 63 = .ok (.ldc2_w 343, 3) := by decide +kernel
theorem dX12_waysOf_66 : decode cX12_waysOf 66 = .ok (.lcmp, 1) := by decide +kernel
theorem dX12_waysOf_67 : decode cX12_waysOf 67 = .ok (.ifCond .le 9, 3) := by decide +kernel
theorem dX12_waysOf_70 : decode cX12_waysOf 70 = .ok (.ldc_w 345, 3) := by decide +kernel
theorem dX12_waysOf_73 : decode cX12_waysOf 73 = .ok (.goto 5, 3) := by decide +kernel
theorem dX12_waysOf_76 : decode cX12_waysOf 76 = .ok (.lload_n 3, 1) := by decide +kernel
theorem dX12_waysOf_77 : decode cX12_waysOf 77 = .ok (.l2i, 1) := by decide +kernel
theorem dX12_waysOf_78 : decode cX12_waysOf 78 = .ok (.ireturn, 1) := by decide +kernel
theorem dX12_mayOf_0 : decode cX12_mayOf 0 = .ok (.aload_n 0, 1) := by decide +kernel
theorem dX12_mayOf_1 : decode cX12_mayOf 1 = .ok (.iload_n 1, 1) := by decide +kernel
theorem dX12_mayOf_2 : decode cX12_mayOf 2 = .ok (.iload_n 2, 1) := by decide +kernel
theorem dX12_mayOf_3 : decode cX12_mayOf 3 = .ok (.invokevirtual 318, 3) := by decide +kernel
theorem dX12_mayOf_6 : decode cX12_mayOf 6 = .ok (.aload_n 0, 1) := by decide +kernel
theorem dX12_mayOf_7 : decode cX12_mayOf 7 = .ok (.iload_n 1, 1) := by decide +kernel
theorem dX12_mayOf_8 : decode cX12_mayOf 8 = .ok (.iload_n 2, 1) := by decide +kernel
theorem dX12_mayOf_9 : decode cX12_mayOf 9 = .ok (.invokevirtual 337, 3) := by decide +kernel
theorem dX12_mayOf_12 : decode cX12_mayOf 12 = .ok (.iconst 0, 1) := by decide +kernel
theorem dX12_mayOf_13 : decode cX12_mayOf 13 = .ok (.istore_n 3, 1) := by decide +kernel
theorem dX12_mayOf_14 : decode cX12_mayOf 14 = .ok (.iload_n 1, 1) := by decide +kernel
theorem dX12_mayOf_15 : decode cX12_mayOf 15 = .ok (.istore 4, 2) := by decide +kernel
theorem dX12_mayOf_17 : decode cX12_mayOf 17 = .ok (.iload 4, 2) := by decide +kernel
theorem dX12_mayOf_19 : decode cX12_mayOf 19 = .ok (.iload_n 2, 1) := by decide +kernel
theorem dX12_mayOf_20 : decode cX12_mayOf 20 = .ok (.if_icmp .ge 46, 3) := by decide +kernel
theorem dX12_mayOf_23 : decode cX12_mayOf 23 = .ok (.iload_n 3, 1) := by decide +kernel
theorem dX12_mayOf_24 : decode cX12_mayOf 24 = .ok (.aload_n 0, 1) := by decide +kernel
theorem dX12_mayOf_25 : decode cX12_mayOf 25 = .ok (.getfield 106, 3) := by decide +kernel
theorem dX12_mayOf_28 : decode cX12_mayOf 28 = .ok (.iload 4, 2) := by decide +kernel
theorem dX12_mayOf_30 : decode cX12_mayOf 30 = .ok (.iaload, 1) := by decide +kernel
theorem dX12_mayOf_31 : decode cX12_mayOf 31 = .ok (.aload_n 0, 1) := by decide +kernel
theorem dX12_mayOf_32 : decode cX12_mayOf 32 = .ok (.getfield 109, 3) := by decide +kernel
theorem dX12_mayOf_35 : decode cX12_mayOf 35 = .ok (.iload 4, 2) := by decide +kernel
theorem dX12_mayOf_37 : decode cX12_mayOf 37 = .ok (.iaload, 1) := by decide +kernel
theorem dX12_mayOf_38 : decode cX12_mayOf 38 = .ok (.iadd, 1) := by decide +kernel
theorem dX12_mayOf_39 : decode cX12_mayOf 39 = .ok (.iconst 1, 1) := by decide +kernel
theorem dX12_mayOf_40 : decode cX12_mayOf 40 = .ok (.isub, 1) := by decide +kernel
theorem dX12_mayOf_41 : decode cX12_mayOf 41 = .ok (.aload_n 0, 1) := by decide +kernel
theorem dX12_mayOf_42 : decode cX12_mayOf 42 = .ok (.iload_n 1, 1) := by decide +kernel
theorem dX12_mayOf_43 : decode cX12_mayOf 43 = .ok (.iload_n 2, 1) := by decide +kernel
theorem dX12_mayOf_44 : decode cX12_mayOf 44 = .ok (.invokevirtual 321, 3) := by decide +kernel
theorem dX12_mayOf_47 : decode cX12_mayOf 47 = .ok (.if_icmp .ne 10, 3) := by decide +kernel
theorem dX12_mayOf_50 : decode cX12_mayOf 50 = .ok (.iconst 1, 1) := by decide +kernel
theorem dX12_mayOf_51 : decode cX12_mayOf 51 = .ok (.iload 4, 2) := by decide +kernel
theorem dX12_mayOf_53 : decode cX12_mayOf 53 = .ok (.ishl, 1) := by decide +kernel
theorem dX12_mayOf_54 : decode cX12_mayOf 54 = .ok (.goto 4, 3) := by decide +kernel
theorem dX12_mayOf_57 : decode cX12_mayOf 57 = .ok (.iconst 0, 1) := by decide +kernel
theorem dX12_mayOf_58 : decode cX12_mayOf 58 = .ok (.ior, 1) := by decide +kernel
theorem dX12_mayOf_59 : decode cX12_mayOf 59 = .ok (.istore_n 3, 1) := by decide +kernel
theorem dX12_mayOf_60 : decode cX12_mayOf 60 = .ok (.iinc 4 1, 3) := by decide +kernel
theorem dX12_mayOf_63 : decode cX12_mayOf 63 = .ok (.goto (-46), 3) := by decide +kernel
theorem dX12_mayOf_66 : decode cX12_mayOf 66 = .ok (.iload_n 3, 1) := by decide +kernel
theorem dX12_mayOf_67 : decode cX12_mayOf 67 = .ok (.ireturn, 1) := by decide +kernel
theorem dX12_may_0 : decode cX12_may 0 = .ok (.aload_n 0, 1) := by decide +kernel
theorem dX12_may_1 : decode cX12_may 1 = .ok (.iconst 0, 1) := by decide +kernel
theorem dX12_may_2 : decode cX12_may 2 = .ok (.putfield 1, 3) := by decide +kernel
theorem dX12_may_5 : decode cX12_may 5 = .ok (.aload_n 0, 1) := by decide +kernel
theorem dX12_may_6 : decode cX12_may 6 = .ok (.iload_n 1, 1) := by decide +kernel
theorem dX12_may_7 : decode cX12_may 7 = .ok (.iload_n 2, 1) := by decide +kernel
theorem dX12_may_8 : decode cX12_may 8 = .ok (.iload_n 3, 1) := by decide +kernel
theorem dX12_may_9 : decode cX12_may 9 = .ok (.invokevirtual 330, 3) := by decide +kernel
theorem dX12_may_12 : decode cX12_may 12 = .ok (.ifCond .ne 5, 3) := by decide +kernel
theorem dX12_may_15 : decode cX12_may 15 = .ok (.iconst (-1), 1) := by decide +kernel
theorem dX12_may_16 : decode cX12_may 16 = .ok (.ireturn, 1) := by decide +kernel
theorem dX12_may_17 : decode cX12_may 17 = .ok (.aload_n 0, 1) := by decide +kernel
theorem dX12_may_18 : decode cX12_may 18 = .ok (.iload_n 1, 1) := by decide +kernel
theorem dX12_may_19 : decode cX12_may 19 = .ok (.invokevirtual 334, 3) := by decide +kernel
theorem dX12_may_22 : decode cX12_may 22 = .ok (.aload_n 0, 1) := by decide +kernel
theorem dX12_may_23 : decode cX12_may 23 = .ok (.iload_n 2, 1) := by decide +kernel
theorem dX12_may_24 : decode cX12_may 24 = .ok (.iload_n 3, 1) := by decide +kernel
theorem dX12_may_25 : decode cX12_may 25 = .ok (.invokevirtual 346, 3) := by decide +kernel
theorem dX12_may_28 : decode cX12_may 28 = .ok (.ireturn, 1) := by decide +kernel
theorem dX12_must_0 : decode cX12_must 0 = .ok (.aload_n 0, 1) := by decide +kernel
theorem dX12_must_1 : decode cX12_must 1 = .ok (.iconst 0, 1) := by decide +kernel
theorem dX12_must_2 : decode cX12_must 2 = .ok (.putfield 1, 3) := by decide +kernel
theorem dX12_must_5 : decode cX12_must 5 = .ok (.aload_n 0, 1) := by decide +kernel
theorem dX12_must_6 : decode cX12_must 6 = .ok (.iload_n 1, 1) := by decide +kernel
theorem dX12_must_7 : decode cX12_must 7 = .ok (.iload_n 2, 1) := by decide +kernel
theorem dX12_must_8 : decode cX12_must 8 = .ok (.iload_n 3, 1) := by decide +kernel
theorem dX12_must_9 : decode cX12_must 9 = .ok (.invokevirtual 330, 3) := by decide +kernel
theorem dX12_must_12 : decode cX12_must 12 = .ok (.ifCond .ne 5, 3) := by decide +kernel
theorem dX12_must_15 : decode cX12_must 15 = .ok (.iconst (-1), 1) := by decide +kernel
theorem dX12_must_16 : decode cX12_must 16 = .ok (.ireturn, 1) := by decide +kernel
theorem dX12_must_17 : decode cX12_must 17 = .ok (.aload_n 0, 1) := by decide +kernel
theorem dX12_must_18 : decode cX12_must 18 = .ok (.iload_n 1, 1) := by decide +kernel
theorem dX12_must_19 : decode cX12_must 19 = .ok (.invokevirtual 334, 3) := by decide +kernel
theorem dX12_must_22 : decode cX12_must 22 = .ok (.aload_n 0, 1) := by decide +kernel
theorem dX12_must_23 : decode cX12_must 23 = .ok (.iload_n 2, 1) := by decide +kernel
theorem dX12_must_24 : decode cX12_must 24 = .ok (.iload_n 3, 1) := by decide +kernel
theorem dX12_must_25 : decode cX12_must 25 = .ok (.invokevirtual 346, 3) := by decide +kernel
theorem dX12_must_28 : decode cX12_must 28 = .ok (.istore 4, 2) := by decide +kernel
theorem dX12_must_30 : decode cX12_must 30 = .ok (.iload 4, 2) := by decide +kernel
theorem dX12_must_32 : decode cX12_must 32 = .ok (.istore 5, 2) := by decide +kernel
theorem dX12_must_34 : decode cX12_must 34 = .ok (.iload_n 2, 1) := by decide +kernel
theorem dX12_must_35 : decode cX12_must 35 = .ok (.istore 6, 2) := by decide +kernel
theorem dX12_must_37 : decode cX12_must 37 = .ok (.iload 6, 2) := by decide +kernel
theorem dX12_must_39 : decode cX12_must 39 = .ok (.iload_n 3, 1) := by decide +kernel
theorem dX12_must_40 : decode cX12_must 40 = .ok (.if_icmp .ge 96, 3) := by decide +kernel
theorem dX12_must_43 : decode cX12_must 43 = .ok (.iload_n 2, 1) := by decide +kernel
theorem dX12_must_44 : decode cX12_must 44 = .ok (.istore 7, 2) := by decide +kernel
theorem dX12_must_46 : decode cX12_must 46 = .ok (.iload 7, 2) := by decide +kernel
theorem dX12_must_48 : decode cX12_must 48 = .ok (.iload 6, 2) := by decide +kernel
theorem dX12_must_50 : decode cX12_must 50 = .ok (.if_icmp .ge 80, 3) := by decide +kernel
theorem dX12_must_53 : decode cX12_must 53 = .ok (.iload 4, 2) := by decide +kernel
theorem dX12_must_55 : decode cX12_must 55 = .ok (.iload 6, 2) := by decide +kernel
theorem dX12_must_57 : decode cX12_must 57 = .ok (.ishr, 1) := by decide +kernel
theorem dX12_must_58 : decode cX12_must 58 = .ok (.iconst 1, 1) := by decide +kernel
theorem dX12_must_59 : decode cX12_must 59 = .ok (.iand, 1) := by decide +kernel
theorem dX12_must_60 : decode cX12_must 60 = .ok (.iconst 1, 1) := by decide +kernel
theorem dX12_must_61 : decode cX12_must 61 = .ok (.if_icmp .ne 35, 3) := by decide +kernel
theorem dX12_must_64 : decode cX12_must 64 = .ok (.iload 4, 2) := by decide +kernel
theorem dX12_must_66 : decode cX12_must 66 = .ok (.iload 7, 2) := by decide +kernel
theorem dX12_must_68 : decode cX12_must 68 = .ok (.ishr, 1) := by decide +kernel
theorem dX12_must_69 : decode cX12_must 69 = .ok (.iconst 1, 1) := by decide +kernel
theorem dX12_must_70 : decode cX12_must 70 = .ok (.iand, 1) := by decide +kernel
theorem dX12_must_71 : decode cX12_must 71 = .ok (.iconst 1, 1) := by decide +kernel
theorem dX12_must_72 : decode cX12_must 72 = .ok (.if_icmp .ne 24, 3) := by decide +kernel
theorem dX12_must_75 : decode cX12_must 75 = .ok (.aload_n 0, 1) := by decide +kernel
theorem dX12_must_76 : decode cX12_must 76 = .ok (.getfield 106, 3) := by decide +kernel
theorem dX12_must_79 : decode cX12_must 79 = .ok (.iload 6, 2) := by decide +kernel
theorem dX12_must_81 : decode cX12_must 81 = .ok (.iaload, 1) := by decide +kernel
theorem dX12_must_82 : decode cX12_must 82 = .ok (.aload_n 0, 1) := by decide +kernel
theorem dX12_must_83 : decode cX12_must 83 = .ok (.getfield 106, 3) := by decide +kernel
theorem dX12_must_86 : decode cX12_must 86 = .ok (.iload 7, 2) := by decide +kernel
theorem dX12_must_88 : decode cX12_must 88 = .ok (.iaload, 1) := by decide +kernel
theorem dX12_must_89 : decode cX12_must 89 = .ok (.if_icmp .ne 7, 3) := by decide +kernel
theorem dX12_must_92 : decode cX12_must 92 = .ok (.iconst 1, 1) := by decide +kernel
theorem dX12_must_93 : decode cX12_must 93 = .ok (.goto 4, 3) := by decide +kernel
theorem dX12_must_96 : decode cX12_must 96 = .ok (.iconst 0, 1) := by decide +kernel
theorem dX12_must_97 : decode cX12_must 97 = .ok (.istore 8, 2) := by decide +kernel
theorem dX12_must_99 : decode cX12_must 99 = .ok (.iload 5, 2) := by decide +kernel
theorem dX12_must_101 : decode cX12_must 101 = .ok (.iload 8, 2) := by decide +kernel
theorem dX12_must_103 : decode cX12_must 103 = .ok (.ifCond .eq 17, 3) := by decide +kernel
theorem dX12_must_106 : decode cX12_must 106 = .ok (.iconst 1, 1) := by decide +kernel
theorem dX12_must_107 : decode cX12_must 107 = .ok (.iload 6, 2) := by decide +kernel
theorem dX12_must_109 : decode cX12_must 109 = .ok (.ishl, 1) := by decide +kernel
theorem dX12_must_110 : decode cX12_must 110 = .ok (.iconst 1, 1) := by decide +kernel
theorem dX12_must_111 : decode cX12_must 111 = .ok (.iload 7, 2) := by decide +kernel
theorem dX12_must_113 : decode cX12_must 113 = .ok (.ishl, 1) := by decide +kernel
theorem dX12_must_114 : decode cX12_must 114 = .ok (.ior, 1) := by decide +kernel
theorem dX12_must_115 : decode cX12_must 115 = .ok (.iconst (-1), 1) := by decide +kernel
theorem dX12_must_116 : decode cX12_must 116 = .ok (.ixor, 1) := by decide +kernel
theorem dX12_must_117 : decode cX12_must 117 = .ok (.goto 4, 3) := by decide +kernel
theorem dX12_must_120 : decode cX12_must 120 = .ok (.iconst (-1), 1) := by decide +kernel
theorem dX12_must_121 : decode cX12_must 121 = .ok (.iand, 1) := by decide +kernel
theorem dX12_must_122 : decode cX12_must 122 = .ok (.istore 5, 2) := by decide +kernel
theorem dX12_must_124 : decode cX12_must 124 = .ok (.iinc 7 1, 3) := by decide +kernel
theorem dX12_must_127 : decode cX12_must 127 = .ok (.goto (-81), 3) := by decide +kernel
theorem dX12_must_130 : decode cX12_must 130 = .ok (.iinc 6 1, 3) := by decide +kernel
theorem dX12_must_133 : decode cX12_must 133 = .ok (.goto (-96), 3) := by decide +kernel
theorem dX12_must_136 : decode cX12_must 136 = .ok (.iload 5, 2) := by decide +kernel
theorem dX12_must_138 : decode cX12_must 138 = .ok (.ireturn, 1) := by decide +kernel
theorem dX12_bareAt_0 : decode cX12_bareAt 0 = .ok (.iload_n 1, 1) := by decide +kernel
theorem dX12_bareAt_1 : decode cX12_bareAt 1 = .ok (.iload_n 2, 1) := by decide +kernel
theorem dX12_bareAt_2 : decode cX12_bareAt 2 = .ok (.if_icmp .le 7, 3) := by decide +kernel
theorem dX12_bareAt_5 : decode cX12_bareAt 5 = .ok (.iconst 0, 1) := by decide +kernel
theorem dX12_bareAt_6 : decode cX12_bareAt 6 = .ok (.goto 13, 3) := by decide +kernel
theorem dX12_bareAt_9 : decode cX12_bareAt 9 = .ok (.iload_n 2, 1) := by decide +kernel
theorem dX12_bareAt_10 : decode cX12_bareAt 10 = .ok (.iload_n 1, 1) := by decide +kernel
theorem dX12_bareAt_11 : decode cX12_bareAt 11 = .ok (.isub, 1) := by decide +kernel
theorem dX12_bareAt_12 : decode cX12_bareAt 12 = .ok (.aload_n 0, 1) := by decide +kernel
theorem dX12_bareAt_13 : decode cX12_bareAt 13 = .ok (.iload_n 1, 1) := by decide +kernel
theorem dX12_bareAt_14 : decode cX12_bareAt 14 = .ok (.iload_n 2, 1) := by decide +kernel
theorem dX12_bareAt_15 : decode cX12_bareAt 15 = .ok (.invokevirtual 321, 3) := by decide +kernel
theorem dX12_bareAt_18 : decode cX12_bareAt 18 = .ok (.isub, 1) := by decide +kernel
theorem dX12_bareAt_19 : decode cX12_bareAt 19 = .ok (.ireturn, 1) := by decide +kernel
theorem dX12_strandOf_0 : decode cX12_strandOf 0 = .ok (.iload_n 1, 1) := by decide +kernel
theorem dX12_strandOf_1 : decode cX12_strandOf 1 = .ok (.istore_n 2, 1) := by decide +kernel
theorem dX12_strandOf_2 : decode cX12_strandOf 2 = .ok (.iload_n 2, 1) := by decide +kernel
theorem dX12_strandOf_3 : decode cX12_strandOf 3 = .ok (.aload_n 0, 1) := by decide +kernel
theorem dX12_strandOf_4 : decode cX12_strandOf 4 = .ok (.getfield 304, 3) := by decide +kernel
theorem dX12_strandOf_7 : decode cX12_strandOf 7 = .ok (.if_icmp .ge 50, 3) := by decide +kernel
theorem dX12_strandOf_10 : decode cX12_strandOf 10 = .ok (.aload_n 0, 1) := by decide +kernel
theorem dX12_strandOf_11 : decode cX12_strandOf 11 = .ok (.iload_n 1, 1) := by decide +kernel
theorem dX12_strandOf_12 : decode cX12_strandOf 12 = .ok (.iload_n 2, 1) := by decide +kernel
theorem dX12_strandOf_13 : decode cX12_strandOf 13 = .ok (.iconst 1, 1) := by decide +kernel
theorem dX12_strandOf_14 : decode cX12_strandOf 14 = .ok (.iadd, 1) := by decide +kernel
theorem dX12_strandOf_15 : decode cX12_strandOf 15 = .ok (.invokevirtual 349, 3) := by decide +kernel
theorem dX12_strandOf_18 : decode cX12_strandOf 18 = .ok (.aload_n 0, 1) := by decide +kernel
theorem dX12_strandOf_19 : decode cX12_strandOf 19 = .ok (.iload_n 1, 1) := by decide +kernel
theorem dX12_strandOf_20 : decode cX12_strandOf 20 = .ok (.iconst 1, 1) := by decide +kernel
theorem dX12_strandOf_21 : decode cX12_strandOf 21 = .ok (.iadd, 1) := by decide +kernel
theorem dX12_strandOf_22 : decode cX12_strandOf 22 = .ok (.iload_n 2, 1) := by decide +kernel
theorem dX12_strandOf_23 : decode cX12_strandOf 23 = .ok (.iconst 1, 1) := by decide +kernel
theorem dX12_strandOf_24 : decode cX12_strandOf 24 = .ok (.iadd, 1) := by decide +kernel
theorem dX12_strandOf_25 : decode cX12_strandOf 25 = .ok (.invokevirtual 349, 3) := by decide +kernel
theorem dX12_strandOf_28 : decode cX12_strandOf 28 = .ok (.isub, 1) := by decide +kernel
theorem dX12_strandOf_29 : decode cX12_strandOf 29 = .ok (.aload_n 0, 1) := by decide +kernel
theorem dX12_strandOf_30 : decode cX12_strandOf 30 = .ok (.iload_n 1, 1) := by decide +kernel
theorem dX12_strandOf_31 : decode cX12_strandOf 31 = .ok (.iload_n 2, 1) := by decide +kernel
theorem dX12_strandOf_32 : decode cX12_strandOf 32 = .ok (.invokevirtual 349, 3) := by decide +kernel
theorem dX12_strandOf_35 : decode cX12_strandOf 35 = .ok (.isub, 1) := by decide +kernel
theorem dX12_strandOf_36 : decode cX12_strandOf 36 = .ok (.aload_n 0, 1) := by decide +kernel
theorem dX12_strandOf_37 : decode cX12_strandOf 37 = .ok (.iload_n 1, 1) := by decide +kernel
theorem dX12_strandOf_38 : decode cX12_strandOf 38 = .ok (.iconst 1, 1) := by decide +kernel
theorem dX12_strandOf_39 : decode cX12_strandOf 39 = .ok (.iadd, 1) := by decide +kernel
theorem dX12_strandOf_40 : decode cX12_strandOf 40 = .ok (.iload_n 2, 1) := by decide +kernel
theorem dX12_strandOf_41 : decode cX12_strandOf 41 = .ok (.invokevirtual 349, 3) := by decide +kernel
theorem dX12_strandOf_44 : decode cX12_strandOf 44 = .ok (.iadd, 1) := by decide +kernel
theorem dX12_strandOf_45 : decode cX12_strandOf 45 = .ok (.iconst 1, 1) := by decide +kernel
theorem dX12_strandOf_46 : decode cX12_strandOf 46 = .ok (.if_icmp .ne 5, 3) := by decide +kernel
theorem dX12_strandOf_49 : decode cX12_strandOf 49 = .ok (.iload_n 2, 1) := by decide +kernel
theorem dX12_strandOf_50 : decode cX12_strandOf 50 = .ok (.ireturn, 1) := by decide +kernel
theorem dX12_strandOf_51 : decode cX12_strandOf 51 = .ok (.iinc 2 1, 3) := by decide +kernel
theorem dX12_strandOf_54 : decode cX12_strandOf 54 = .ok (.goto (-52), 3) := by decide +kernel
theorem dX12_strandOf_57 : decode cX12_strandOf 57 = .ok (.iconst (-1), 1) := by decide +kernel
theorem dX12_strandOf_58 : decode cX12_strandOf 58 = .ok (.ireturn, 1) := by decide +kernel
theorem dX12_bare_0 : decode cX12_bare 0 = .ok (.aload_n 0, 1) := by decide +kernel
theorem dX12_bare_1 : decode cX12_bare 1 = .ok (.iconst 0, 1) := by decide +kernel
theorem dX12_bare_2 : decode cX12_bare 2 = .ok (.putfield 1, 3) := by decide +kernel
theorem dX12_bare_5 : decode cX12_bare 5 = .ok (.aload_n 0, 1) := by decide +kernel
theorem dX12_bare_6 : decode cX12_bare 6 = .ok (.iload_n 1, 1) := by decide +kernel
theorem dX12_bare_7 : decode cX12_bare 7 = .ok (.iload_n 2, 1) := by decide +kernel
theorem dX12_bare_8 : decode cX12_bare 8 = .ok (.iload_n 3, 1) := by decide +kernel
theorem dX12_bare_9 : decode cX12_bare 9 = .ok (.invokevirtual 330, 3) := by decide +kernel
theorem dX12_bare_12 : decode cX12_bare 12 = .ok (.ifCond .ne 5, 3) := by decide +kernel
theorem dX12_bare_15 : decode cX12_bare 15 = .ok (.iconst (-1), 1) := by decide +kernel
theorem dX12_bare_16 : decode cX12_bare 16 = .ok (.ireturn, 1) := by decide +kernel
theorem dX12_bare_17 : decode cX12_bare 17 = .ok (.aload_n 0, 1) := by decide +kernel
theorem dX12_bare_18 : decode cX12_bare 18 = .ok (.iload_n 1, 1) := by decide +kernel
theorem dX12_bare_19 : decode cX12_bare 19 = .ok (.invokevirtual 334, 3) := by decide +kernel
theorem dX12_bare_22 : decode cX12_bare 22 = .ok (.aload_n 0, 1) := by decide +kernel
theorem dX12_bare_23 : decode cX12_bare 23 = .ok (.iload_n 2, 1) := by decide +kernel
theorem dX12_bare_24 : decode cX12_bare 24 = .ok (.iload_n 3, 1) := by decide +kernel
theorem dX12_bare_25 : decode cX12_bare 25 = .ok (.invokevirtual 349, 3) := by decide +kernel
theorem dX12_bare_28 : decode cX12_bare 28 = .ok (.ireturn, 1) := by decide +kernel
theorem dX12_strand_0 : decode cX12_strand 0 = .ok (.aload_n 0, 1) := by decide +kernel
theorem dX12_strand_1 : decode cX12_strand 1 = .ok (.iconst 0, 1) := by decide +kernel
theorem dX12_strand_2 : decode cX12_strand 2 = .ok (.putfield 1, 3) := by decide +kernel
theorem dX12_strand_5 : decode cX12_strand 5 = .ok (.aload_n 0, 1) := by decide +kernel
theorem dX12_strand_6 : decode cX12_strand 6 = .ok (.iload_n 1, 1) := by decide +kernel
theorem dX12_strand_7 : decode cX12_strand 7 = .ok (.iload_n 2, 1) := by decide +kernel
theorem dX12_strand_8 : decode cX12_strand 8 = .ok (.invokevirtual 352, 3) := by decide +kernel
theorem dX12_strand_11 : decode cX12_strand 11 = .ok (.ifCond .ne 5, 3) := by decide +kernel
theorem dX12_strand_14 : decode cX12_strand 14 = .ok (.iconst (-1), 1) := by decide +kernel
theorem dX12_strand_15 : decode cX12_strand 15 = .ok (.ireturn, 1) := by decide +kernel
theorem dX12_strand_16 : decode cX12_strand 16 = .ok (.aload_n 0, 1) := by decide +kernel
theorem dX12_strand_17 : decode cX12_strand 17 = .ok (.iload_n 1, 1) := by decide +kernel
theorem dX12_strand_18 : decode cX12_strand 18 = .ok (.invokevirtual 334, 3) := by decide +kernel
theorem dX12_strand_21 : decode cX12_strand 21 = .ok (.aload_n 0, 1) := by decide +kernel
theorem dX12_strand_22 : decode cX12_strand 22 = .ok (.iload_n 2, 1) := by decide +kernel
theorem dX12_strand_23 : decode cX12_strand 23 = .ok (.invokevirtual 355, 3) := by decide +kernel
theorem dX12_strand_26 : decode cX12_strand 26 = .ok (.ireturn, 1) := by decide +kernel
theorem dX12_under_0 : decode cX12_under 0 = .ok (.aload_n 0, 1) := by decide +kernel
theorem dX12_under_1 : decode cX12_under 1 = .ok (.iconst 0, 1) := by decide +kernel
theorem dX12_under_2 : decode cX12_under 2 = .ok (.putfield 1, 3) := by decide +kernel
theorem dX12_under_5 : decode cX12_under 5 = .ok (.aload_n 0, 1) := by decide +kernel
theorem dX12_under_6 : decode cX12_under 6 = .ok (.iload_n 1, 1) := by decide +kernel
theorem dX12_under_7 : decode cX12_under 7 = .ok (.iload_n 2, 1) := by decide +kernel
theorem dX12_under_8 : decode cX12_under 8 = .ok (.iload_n 3, 1) := by decide +kernel
theorem dX12_under_9 : decode cX12_under 9 = .ok (.invokevirtual 330, 3) := by decide +kernel
theorem dX12_under_12 : decode cX12_under 12 = .ok (.ifCond .ne 5, 3) := by decide +kernel
theorem dX12_under_15 : decode cX12_under 15 = .ok (.iconst (-1), 1) := by decide +kernel
theorem dX12_under_16 : decode cX12_under 16 = .ok (.ireturn, 1) := by decide +kernel
theorem dX12_under_17 : decode cX12_under 17 = .ok (.aload_n 0, 1) := by decide +kernel
theorem dX12_under_18 : decode cX12_under 18 = .ok (.iload_n 1, 1) := by decide +kernel
theorem dX12_under_19 : decode cX12_under 19 = .ok (.invokevirtual 334, 3) := by decide +kernel
theorem dX12_under_22 : decode cX12_under 22 = .ok (.iconst 0, 1) := by decide +kernel
theorem dX12_under_23 : decode cX12_under 23 = .ok (.istore 4, 2) := by decide +kernel
theorem dX12_under_25 : decode cX12_under 25 = .ok (.iload_n 2, 1) := by decide +kernel
theorem dX12_under_26 : decode cX12_under 26 = .ok (.istore 5, 2) := by decide +kernel
theorem dX12_under_28 : decode cX12_under 28 = .ok (.iload 5, 2) := by decide +kernel
theorem dX12_under_30 : decode cX12_under 30 = .ok (.iload_n 3, 1) := by decide +kernel
theorem dX12_under_31 : decode cX12_under 31 = .ok (.if_icmp .ge 38, 3) := by decide +kernel
theorem dX12_under_34 : decode cX12_under 34 = .ok (.aload_n 0, 1) := by decide +kernel
theorem dX12_under_35 : decode cX12_under 35 = .ok (.iload 5, 2) := by decide +kernel
theorem dX12_under_37 : decode cX12_under 37 = .ok (.invokevirtual 355, 3) := by decide +kernel
theorem dX12_under_40 : decode cX12_under 40 = .ok (.istore 6, 2) := by decide +kernel
theorem dX12_under_42 : decode cX12_under 42 = .ok (.iload 4, 2) := by decide +kernel
theorem dX12_under_44 : decode cX12_under 44 = .ok (.iload 6, 2) := by decide +kernel
theorem dX12_under_46 : decode cX12_under 46 = .ok (.ifCond .lt 13, 3) := by decide +kernel
theorem dX12_under_49 : decode cX12_under 49 = .ok (.iload 6, 2) := by decide +kernel
theorem dX12_under_51 : decode cX12_under 51 = .ok (.iload_n 3, 1) := by decide +kernel
theorem dX12_under_52 : decode cX12_under 52 = .ok (.if_icmp .ge 7, 3) := by decide +kernel
theorem dX12_under_55 : decode cX12_under 55 = .ok (.iconst 1, 1) := by decide +kernel
theorem dX12_under_56 : decode cX12_under 56 = .ok (.goto 4, 3) := by decide +kernel
theorem dX12_under_59 : decode cX12_under 59 = .ok (.iconst 0, 1) := by decide +kernel
theorem dX12_under_60 : decode cX12_under 60 = .ok (.iadd, 1) := by decide +kernel
theorem dX12_under_61 : decode cX12_under 61 = .ok (.istore 4, 2) := by decide +kernel
theorem dX12_under_63 : decode cX12_under 63 = .ok (.iinc 5 1, 3) := by decide +kernel
theorem dX12_under_66 : decode cX12_under 66 = .ok (.goto (-38), 3) := by decide +kernel
theorem dX12_under_69 : decode cX12_under 69 = .ok (.iload 4, 2) := by decide +kernel
theorem dX12_under_71 : decode cX12_under 71 = .ok (.ireturn, 1) := by decide +kernel
theorem dX12_how_0 : decode cX12_how 0 = .ok (.aload_n 0, 1) := by decide +kernel
theorem dX12_how_1 : decode cX12_how 1 = .ok (.iconst 0, 1) := by decide +kernel
theorem dX12_how_2 : decode cX12_how 2 = .ok (.putfield 1, 3) := by decide +kernel
theorem dX12_how_5 : decode cX12_how 5 = .ok (.aload_n 0, 1) := by decide +kernel
theorem dX12_how_6 : decode cX12_how 6 = .ok (.iload_n 1, 1) := by decide +kernel
theorem dX12_how_7 : decode cX12_how 7 = .ok (.invokevirtual 289, 3) := by decide +kernel
theorem dX12_how_10 : decode cX12_how 10 = .ok (.ifCond .eq 13, 3) := by decide +kernel
theorem dX12_how_13 : decode cX12_how 13 = .ok (.iload_n 2, 1) := by decide +kernel
theorem dX12_how_14 : decode cX12_how 14 = .ok (.iconst 0, 1) := by decide +kernel
theorem dX12_how_15 : decode cX12_how 15 = .ok (.bipush 20, 2) := by decide +kernel
theorem dX12_how_17 : decode cX12_how 17 = .ok (.invokestatic 358, 3) := by decide +kernel
theorem dX12_how_20 : decode cX12_how 20 = .ok (.ifCond .ne 5, 3) := by decide +kernel
theorem dX12_how_23 : decode cX12_how 23 = .ok (.iconst (-1), 1) := by decide +kernel
theorem dX12_how_24 : decode cX12_how 24 = .ok (.ireturn, 1) := by decide +kernel
theorem dX12_how_25 : decode cX12_how 25 = .ok (.aload_n 0, 1) := by decide +kernel
theorem dX12_how_26 : decode cX12_how 26 = .ok (.iload_n 1, 1) := by decide +kernel
theorem dX12_how_27 : decode cX12_how 27 = .ok (.invokevirtual 334, 3) := by decide +kernel
theorem dX12_how_30 : decode cX12_how 30 = .ok (.iconst 0, 1) := by decide +kernel
theorem dX12_how_31 : decode cX12_how 31 = .ok (.istore_n 3, 1) := by decide +kernel
theorem dX12_how_32 : decode cX12_how 32 = .ok (.iconst 0, 1) := by decide +kernel
theorem dX12_how_33 : decode cX12_how 33 = .ok (.istore 4, 2) := by decide +kernel
theorem dX12_how_35 : decode cX12_how 35 = .ok (.iload 4, 2) := by decide +kernel
theorem dX12_how_37 : decode cX12_how 37 = .ok (.aload_n 0, 1) := by decide +kernel
theorem dX12_how_38 : decode cX12_how 38 = .ok (.getfield 304, 3) := by decide +kernel
theorem dX12_how_41 : decode cX12_how 41 = .ok (.if_icmp .gt 48, 3) := by decide +kernel
theorem dX12_how_44 : decode cX12_how 44 = .ok (.iload 4, 2) := by decide +kernel
theorem dX12_how_46 : decode cX12_how 46 = .ok (.istore 5, 2) := by decide +kernel
theorem dX12_how_48 : decode cX12_how 48 = .ok (.iload 5, 2) := by decide +kernel
theorem dX12_how_50 : decode cX12_how 50 = .ok (.aload_n 0, 1) := by decide +kernel
theorem dX12_how_51 : decode cX12_how 51 = .ok (.getfield 304, 3) := by decide +kernel
theorem dX12_how_54 : decode cX12_how 54 = .ok (.if_icmp .gt 29, 3) := by decide +kernel
theorem dX12_how_57 : decode cX12_how 57 = .ok (.iload_n 3, 1) := by decide +kernel
theorem dX12_how_58 : decode cX12_how 58 = .ok (.aload_n 0, 1) := by decide +kernel
theorem dX12_how_59 : decode cX12_how 59 = .ok (.iload 4, 2) := by decide +kernel
theorem dX12_how_61 : decode cX12_how 61 = .ok (.iload 5, 2) := by decide +kernel
theorem dX12_how_63 : decode cX12_how 63 = .ok (.invokevirtual 321, 3) := by decide +kernel
theorem dX12_how_66 : decode cX12_how 66 = .ok (.iload_n 2, 1) := by decide +kernel
theorem dX12_how_67 : decode cX12_how 67 = .ok (.if_icmp .ne 7, 3) := by decide +kernel
theorem dX12_how_70 : decode cX12_how 70 = .ok (.iconst 1, 1) := by decide +kernel
theorem dX12_how_71 : decode cX12_how 71 = .ok (.goto 4, 3) := by decide +kernel
theorem dX12_how_74 : decode cX12_how 74 = .ok (.iconst 0, 1) := by decide +kernel
theorem dX12_how_75 : decode cX12_how 75 = .ok (.iadd, 1) := by decide +kernel
theorem dX12_how_76 : decode cX12_how 76 = .ok (.istore_n 3, 1) := by decide +kernel
theorem dX12_how_77 : decode cX12_how 77 = .ok (.iinc 5 1, 3) := by decide +kernel
theorem dX12_how_80 : decode cX12_how 80 = .ok (.goto (-32), 3) := by decide +kernel
theorem dX12_how_83 : decode cX12_how 83 = .ok (.iinc 4 1, 3) := by decide +kernel
theorem dX12_how_86 : decode cX12_how 86 = .ok (.goto (-51), 3) := by decide +kernel
theorem dX12_how_89 : decode cX12_how 89 = .ok (.iload_n 3, 1) := by decide +kernel
theorem dX12_how_90 : decode cX12_how 90 = .ok (.ireturn, 1) := by decide +kernel
theorem dX12_best_0 : decode cX12_best 0 = .ok (.aload_n 0, 1) := by decide +kernel
theorem dX12_best_1 : decode cX12_best 1 = .ok (.iconst 0, 1) := by decide +kernel
theorem dX12_best_2 : decode cX12_best 2 = .ok (.putfield 1, 3) := by decide +kernel
theorem dX12_best_5 : decode cX12_best 5 = .ok (.aload_n 0, 1) := by decide +kernel
theorem dX12_best_6 : decode cX12_best 6 = .ok (.iload_n 1, 1) := by decide +kernel
theorem dX12_best_7 : decode cX12_best 7 = .ok (.invokevirtual 289, 3) := by decide +kernel
theorem dX12_best_10 : decode cX12_best 10 = .ok (.ifCond .eq 17, 3) := by decide +kernel
theorem dX12_best_13 : decode cX12_best 13 = .ok (.iload_n 2, 1) := by decide +kernel
theorem dX12_best_14 : decode cX12_best 14 = .ok (.iconst 0, 1) := by decide +kernel
theorem dX12_best_15 : decode cX12_best 15 = .ok (.aload_n 0, 1) := by decide +kernel
theorem dX12_best_16 : decode cX12_best 16 = .ok (.iconst 0, 1) := by decide +kernel
theorem dX12_best_17 : decode cX12_best 17 = .ok (.iload_n 1, 1) := by decide +kernel
theorem dX12_best_18 : decode cX12_best 18 = .ok (.invokevirtual 292, 3) := by decide +kernel
theorem dX12_best_21 : decode cX12_best 21 = .ok (.invokestatic 358, 3) := by decide +kernel
theorem dX12_best_24 : decode cX12_best 24 = .ok (.ifCond .ne 5, 3) := by decide +kernel
theorem dX12_best_27 : decode cX12_best 27 = .ok (.iconst (-1), 1) := by decide +kernel
theorem dX12_best_28 : decode cX12_best 28 = .ok (.ireturn, 1) := by decide +kernel
theorem dX12_best_29 : decode cX12_best 29 = .ok (.aload_n 0, 1) := by decide +kernel
theorem dX12_best_30 : decode cX12_best 30 = .ok (.iload_n 1, 1) := by decide +kernel
theorem dX12_best_31 : decode cX12_best 31 = .ok (.invokevirtual 334, 3) := by decide +kernel
theorem dX12_best_34 : decode cX12_best 34 = .ok (.iconst 0, 1) := by decide +kernel
theorem dX12_best_35 : decode cX12_best 35 = .ok (.istore_n 3, 1) := by decide +kernel
theorem dX12_best_36 : decode cX12_best 36 = .ok (.iconst 0, 1) := by decide +kernel
theorem dX12_best_37 : decode cX12_best 37 = .ok (.istore 4, 2) := by decide +kernel
theorem dX12_best_39 : decode cX12_best 39 = .ok (.iload 4, 2) := by decide +kernel
theorem dX12_best_41 : decode cX12_best 41 = .ok (.iload_n 2, 1) := by decide +kernel
theorem dX12_best_42 : decode cX12_best 42 = .ok (.iadd, 1) := by decide +kernel
theorem dX12_best_43 : decode cX12_best 43 = .ok (.aload_n 0, 1) := by decide +kernel
theorem dX12_best_44 : decode cX12_best 44 = .ok (.getfield 304, 3) := by decide +kernel
theorem dX12_best_47 : decode cX12_best 47 = .ok (.if_icmp .gt 37, 3) := by decide +kernel
theorem dX12_best_50 : decode cX12_best 50 = .ok (.aload_n 0, 1) := by decide +kernel
theorem dX12_best_51 : decode cX12_best 51 = .ok (.iload 4, 2) := by decide +kernel
theorem dX12_best_53 : decode cX12_best 53 = .ok (.iload 4, 2) := by decide +kernel
theorem dX12_best_55 : decode cX12_best 55 = .ok (.iload_n 2, 1) := by decide +kernel
theorem dX12_best_56 : decode cX12_best 56 = .ok (.iadd, 1) := by decide +kernel
theorem dX12_best_57 : decode cX12_best 57 = .ok (.invokevirtual 321, 3) := by decide +kernel
theorem dX12_best_60 : decode cX12_best 60 = .ok (.aload_n 0, 1) := by decide +kernel
theorem dX12_best_61 : decode cX12_best 61 = .ok (.iload_n 3, 1) := by decide +kernel
theorem dX12_best_62 : decode cX12_best 62 = .ok (.iload_n 3, 1) := by decide +kernel
theorem dX12_best_63 : decode cX12_best 63 = .ok (.iload_n 2, 1) := by decide +kernel
theorem dX12_best_64 : decode cX12_best 64 = .ok (.iadd, 1) := by decide +kernel
theorem dX12_best_65 : decode cX12_best 65 = .ok (.invokevirtual 321, 3) := by decide +kernel
theorem dX12_best_68 : decode cX12_best 68 = .ok (.if_icmp .le 8, 3) := by decide +kernel
theorem dX12_best_71 : decode cX12_best 71 = .ok (.iload 4, 2) := by decide +kernel
theorem dX12_best_73 : decode cX12_best 73 = .ok (.goto 4, 3) := by decide +kernel
theorem dX12_best_76 : decode cX12_best 76 = .ok (.iload_n 3, 1) := by decide +kernel
theorem dX12_best_77 : decode cX12_best 77 = .ok (.istore_n 3, 1) := by decide +kernel
theorem dX12_best_78 : decode cX12_best 78 = .ok (.iinc 4 1, 3) := by decide +kernel
theorem dX12_best_81 : decode cX12_best 81 = .ok (.goto (-42), 3) := by decide +kernel
theorem dX12_best_84 : decode cX12_best 84 = .ok (.iload_n 3, 1) := by decide +kernel
theorem dX12_best_85 : decode cX12_best 85 = .ok (.ireturn, 1) := by decide +kernel
theorem dX12_near_0 : decode cX12_near 0 = .ok (.aload_n 0, 1) := by decide +kernel
theorem dX12_near_1 : decode cX12_near 1 = .ok (.iconst 0, 1) := by decide +kernel
theorem dX12_near_2 : decode cX12_near 2 = .ok (.putfield 1, 3) := by decide +kernel
theorem dX12_near_5 : decode cX12_near 5 = .ok (.aload_n 0, 1) := by decide +kernel
theorem dX12_near_6 : decode cX12_near 6 = .ok (.iload_n 1, 1) := by decide +kernel
theorem dX12_near_7 : decode cX12_near 7 = .ok (.invokevirtual 289, 3) := by decide +kernel
theorem dX12_near_10 : decode cX12_near 10 = .ok (.ifCond .eq 13, 3) := by decide +kernel
theorem dX12_near_13 : decode cX12_near 13 = .ok (.iload_n 2, 1) := by decide +kernel
theorem dX12_near_14 : decode cX12_near 14 = .ok (.iconst 0, 1) := by decide +kernel
theorem dX12_near_15 : decode cX12_near 15 = .ok (.bipush 20, 2) := by decide +kernel
theorem dX12_near_17 : decode cX12_near 17 = .ok (.invokestatic 358, 3) := by decide +kernel
theorem dX12_near_20 : decode cX12_near 20 = .ok (.ifCond .ne 5, 3) := by decide +kernel
theorem dX12_near_23 : decode cX12_near 23 = .ok (.iconst (-1), 1) := by decide +kernel
theorem dX12_near_24 : decode cX12_near 24 = .ok (.ireturn, 1) := by decide +kernel
theorem dX12_near_25 : decode cX12_near 25 = .ok (.aload_n 0, 1) := by decide +kernel
theorem dX12_near_26 : decode cX12_near 26 = .ok (.iload_n 1, 1) := by decide +kernel
theorem dX12_near_27 : decode cX12_near 27 = .ok (.invokevirtual 334, 3) := by decide +kernel
theorem dX12_near_30 : decode cX12_near 30 = .ok (.iconst 0, 1) := by decide +kernel
theorem dX12_near_31 : decode cX12_near 31 = .ok (.istore_n 3, 1) := by decide +kernel
theorem dX12_near_32 : decode cX12_near 32 = .ok (.iload_n 3, 1) := by decide +kernel
theorem dX12_near_33 : decode cX12_near 33 = .ok (.aload_n 0, 1) := by decide +kernel
theorem dX12_near_34 : decode cX12_near 34 = .ok (.getfield 304, 3) := by decide +kernel
theorem dX12_near_37 : decode cX12_near 37 = .ok (.if_icmp .gt 54, 3) := by decide +kernel
theorem dX12_near_40 : decode cX12_near 40 = .ok (.iconst 0, 1) := by decide +kernel
theorem dX12_near_41 : decode cX12_near 41 = .ok (.istore 4, 2) := by decide +kernel
theorem dX12_near_43 : decode cX12_near 43 = .ok (.iload 4, 2) := by decide +kernel
theorem dX12_near_45 : decode cX12_near 45 = .ok (.iload_n 3, 1) := by decide +kernel
theorem dX12_near_46 : decode cX12_near 46 = .ok (.iadd, 1) := by decide +kernel
theorem dX12_near_47 : decode cX12_near 47 = .ok (.aload_n 0, 1) := by decide +kernel
theorem dX12_near_48 : decode cX12_near 48 = .ok (.getfield 304, 3) := by decide +kernel
theorem dX12_near_51 : decode cX12_near 51 = .ok (.if_icmp .gt 34, 3) := by decide +kernel
theorem dX12_near_54 : decode cX12_near 54 = .ok (.aload_n 0, 1) := by decide +kernel
theorem dX12_near_55 : decode cX12_near 55 = .ok (.iload 4, 2) := by decide +kernel
theorem dX12_near_57 : decode cX12_near 57 = .ok (.iload 4, 2) := by decide +kernel
theorem dX12_near_59 : decode cX12_near 59 = .ok (.iload_n 3, 1) := by decide +kernel
theorem dX12_near_60 : decode cX12_near 60 = .ok (.iadd, 1) := by decide +kernel
theorem dX12_near_61 : decode cX12_near 61 = .ok (.invokevirtual 321, 3) := by decide +kernel
theorem dX12_near_64 : decode cX12_near 64 = .ok (.iload_n 2, 1) := by decide +kernel
theorem dX12_near_65 : decode cX12_near 65 = .ok (.if_icmp .lt 14, 3) := by decide +kernel
theorem dX12_near_68 : decode cX12_near 68 = .ok (.bipush 32, 2) := by decide +kernel
theorem dX12_near_70 : decode cX12_near 70 = .ok (.iload 4, 2) := by decide +kernel
theorem dX12_near_72 : decode cX12_near 72 = .ok (.imul, 1) := by decide +kernel
theorem dX12_near_73 : decode cX12_near 73 = .ok (.iload 4, 2) := by decide +kernel
theorem dX12_near_75 : decode cX12_near 75 = .ok (.iadd, 1) := by decide +kernel
theorem dX12_near_76 : decode cX12_near 76 = .ok (.iload_n 3, 1) := by decide +kernel
theorem dX12_near_77 : decode cX12_near 77 = .ok (.iadd, 1) := by decide +kernel
theorem dX12_near_78 : decode cX12_near 78 = .ok (.ireturn, 1) := by decide +kernel
theorem dX12_near_79 : decode cX12_near 79 = .ok (.iinc 4 1, 3) := by decide +kernel
theorem dX12_near_82 : decode cX12_near 82 = .ok (.goto (-39), 3) := by decide +kernel
theorem dX12_near_85 : decode cX12_near 85 = .ok (.iinc 3 1, 3) := by decide +kernel
theorem dX12_near_88 : decode cX12_near 88 = .ok (.goto (-56), 3) := by decide +kernel
theorem dX12_near_91 : decode cX12_near 91 = .ok (.iconst (-1), 1) := by decide +kernel
theorem dX12_near_92 : decode cX12_near 92 = .ok (.ireturn, 1) := by decide +kernel
theorem dX12_piles_0 : decode cX12_piles 0 = .ok (.aload_n 0, 1) := by decide +kernel
theorem dX12_piles_1 : decode cX12_piles 1 = .ok (.iconst 0, 1) := by decide +kernel
theorem dX12_piles_2 : decode cX12_piles 2 = .ok (.putfield 1, 3) := by decide +kernel
theorem dX12_piles_5 : decode cX12_piles 5 = .ok (.aload_n 0, 1) := by decide +kernel
theorem dX12_piles_6 : decode cX12_piles 6 = .ok (.iload_n 1, 1) := by decide +kernel
theorem dX12_piles_7 : decode cX12_piles 7 = .ok (.iload_n 2, 1) := by decide +kernel
theorem dX12_piles_8 : decode cX12_piles 8 = .ok (.iload_n 3, 1) := by decide +kernel
theorem dX12_piles_9 : decode cX12_piles 9 = .ok (.invokevirtual 330, 3) := by decide +kernel
theorem dX12_piles_12 : decode cX12_piles 12 = .ok (.ifCond .eq 21, 3) := by decide +kernel
theorem dX12_piles_15 : decode cX12_piles 15 = .ok (.iload 4, 2) := by decide +kernel
theorem dX12_piles_17 : decode cX12_piles 17 = .ok (.iconst (-1), 1) := by decide +kernel
theorem dX12_piles_18 : decode cX12_piles 18 = .ok (.if_icmp .eq 18, 3) := by decide +kernel
theorem dX12_piles_21 : decode cX12_piles 21 = .ok (.iload 4, 2) := by decide +kernel
theorem dX12_piles_23 : decode cX12_piles 23 = .ok (.iload_n 2, 1) := by decide +kernel
theorem dX12_piles_24 : decode cX12_piles 24 = .ok (.iload_n 3, 1) := by decide +kernel
theorem dX12_piles_25 : decode cX12_piles 25 = .ok (.iconst 1, 1) := by decide +kernel
theorem dX12_piles_26 : decode cX12_piles 26 = .ok (.isub, 1) := by decide +kernel
theorem dX12_piles_27 : decode cX12_piles 27 = .ok (.invokestatic 358, 3) := by decide +kernel
theorem dX12_piles_30 : decode cX12_piles 30 = .ok (.ifCond .ne 6, 3) := by decide +kernel
theorem dX12_piles_33 : decode cX12_piles 33 = .ok (.bipush (-2), 2) := by decide +kernel
theorem dX12_piles_35 : decode cX12_piles 35 = .ok (.ireturn, 1) := by decide +kernel
theorem dX12_piles_36 : decode cX12_piles 36 = .ok (.aload_n 0, 1) := by decide +kernel
theorem dX12_piles_37 : decode cX12_piles 37 = .ok (.iload_n 1, 1) := by decide +kernel
theorem dX12_piles_38 : decode cX12_piles 38 = .ok (.invokevirtual 324, 3) := by decide +kernel
theorem dX12_piles_41 : decode cX12_piles 41 = .ok (.iconst 0, 1) := by decide +kernel
theorem dX12_piles_42 : decode cX12_piles 42 = .ok (.istore 5, 2) := by decide +kernel
theorem dX12_piles_44 : decode cX12_piles 44 = .ok (.iload_n 2, 1) := by decide +kernel
theorem dX12_piles_45 : decode cX12_piles 45 = .ok (.istore 6, 2) := by decide +kernel
theorem dX12_piles_47 : decode cX12_piles 47 = .ok (.iload 6, 2) := by decide +kernel
theorem dX12_piles_49 : decode cX12_piles 49 = .ok (.iload_n 3, 1) := by decide +kernel
theorem dX12_piles_50 : decode cX12_piles 50 = .ok (.if_icmp .ge 87, 3) := by decide +kernel
theorem dX12_piles_53 : decode cX12_piles 53 = .ok (.iconst 0, 1) := by decide +kernel
theorem dX12_piles_54 : decode cX12_piles 54 = .ok (.istore 7, 2) := by decide +kernel
theorem dX12_piles_56 : decode cX12_piles 56 = .ok (.iload 7, 2) := by decide +kernel
theorem dX12_piles_58 : decode cX12_piles 58 = .ok (.iload 5, 2) := by decide +kernel
theorem dX12_piles_60 : decode cX12_piles 60 = .ok (.if_icmp .ge 30, 3) := by decide +kernel
theorem dX12_piles_63 : decode cX12_piles 63 = .ok (.aload_n 0, 1) := by decide +kernel
theorem dX12_piles_64 : decode cX12_piles 64 = .ok (.aload_n 0, 1) := by decide +kernel
theorem dX12_piles_65 : decode cX12_piles 65 = .ok (.getfield 100, 3) := by decide +kernel
theorem dX12_piles_68 : decode cX12_piles 68 = .ok (.iload 6, 2) := by decide +kernel
theorem dX12_piles_70 : decode cX12_piles 70 = .ok (.iaload, 1) := by decide +kernel
theorem dX12_piles_71 : decode cX12_piles 71 = .ok (.aload_n 0, 1) := by decide +kernel
theorem dX12_piles_72 : decode cX12_piles 72 = .ok (.getfield 115, 3) := by decide +kernel
theorem dX12_piles_75 : decode cX12_piles 75 = .ok (.iload 7, 2) := by decide +kernel
theorem dX12_piles_77 : decode cX12_piles 77 = .ok (.iaload, 1) := by decide +kernel
theorem dX12_piles_78 : decode cX12_piles 78 = .ok (.invokevirtual 314, 3) := by decide +kernel
theorem dX12_piles_81 : decode cX12_piles 81 = .ok (.ifCond .eq 9, 3) := by decide +kernel
theorem dX12_piles_84 : decode cX12_piles 84 = .ok (.iinc 7 1, 3) := by decide +kernel
theorem dX12_piles_87 : decode cX12_piles 87 = .ok (.goto (-31), 3) := by decide +kernel
theorem dX12_piles_90 : decode cX12_piles 90 = .ok (.aload_n 0, 1) := by decide +kernel
theorem dX12_piles_91 : decode cX12_piles 91 = .ok (.getfield 115, 3) := by decide +kernel
theorem dX12_piles_94 : decode cX12_piles 94 = .ok (.iload 7, 2) := by decide +kernel
theorem dX12_piles_96 : decode cX12_piles 96 = .ok (.aload_n 0, 1) := by decide +kernel
theorem dX12_piles_97 : decode cX12_piles 97 = .ok (.getfield 100, 3) := by decide +kernel
theorem dX12_piles_100 : decode cX12_piles 100 = .ok (.iload 6, 2) := by decide +kernel
theorem dX12_piles_102 : decode cX12_piles 102 = .ok (.iaload, 1) := by decide +kernel
theorem dX12_piles_103 : decode cX12_piles 103 = .ok (.iastore, 1) := by decide +kernel
theorem dX12_piles_104 : decode cX12_piles 104 = .ok (.aload_n 0, 1) := by decide +kernel
theorem dX12_piles_105 : decode cX12_piles 105 = .ok (.getfield 118, 3) := by decide +kernel
theorem dX12_piles_108 : decode cX12_piles 108 = .ok (.iload 6, 2) := by decide +kernel
theorem dX12_piles_110 : decode cX12_piles 110 = .ok (.iload 7, 2) := by decide +kernel
theorem dX12_piles_112 : decode cX12_piles 112 = .ok (.iastore, 1) := by decide +kernel
theorem dX12_piles_113 : decode cX12_piles 113 = .ok (.iload 7, 2) := by decide +kernel
theorem dX12_piles_115 : decode cX12_piles 115 = .ok (.iload 5, 2) := by decide +kernel
theorem dX12_piles_117 : decode cX12_piles 117 = .ok (.if_icmp .ne 10, 3) := by decide +kernel
theorem dX12_piles_120 : decode cX12_piles 120 = .ok (.iload 5, 2) := by decide +kernel
theorem dX12_piles_122 : decode cX12_piles 122 = .ok (.iconst 1, 1) := by decide +kernel
theorem dX12_piles_123 : decode cX12_piles 123 = .ok (.iadd, 1) := by decide +kernel
theorem dX12_piles_124 : decode cX12_piles 124 = .ok (.goto 5, 3) := by decide +kernel
theorem dX12_piles_127 : decode cX12_piles 127 = .ok (.iload 5, 2) := by decide +kernel
theorem dX12_piles_129 : decode cX12_piles 129 = .ok (.istore 5, 2) := by decide +kernel
theorem dX12_piles_131 : decode cX12_piles 131 = .ok (.iinc 6 1, 3) := by decide +kernel
theorem dX12_piles_134 : decode cX12_piles 134 = .ok (.goto (-87), 3) := by decide +kernel
theorem dX12_piles_137 : decode cX12_piles 137 = .ok (.iload 4, 2) := by decide +kernel
theorem dX12_piles_139 : decode cX12_piles 139 = .ok (.ifCond .ge 8, 3) := by decide +kernel
theorem dX12_piles_142 : decode cX12_piles 142 = .ok (.iload 5, 2) := by decide +kernel
theorem dX12_piles_144 : decode cX12_piles 144 = .ok (.goto 10, 3) := by decide +kernel
theorem dX12_piles_147 : decode cX12_piles 147 = .ok (.aload_n 0, 1) := by decide +kernel
theorem dX12_piles_148 : decode cX12_piles 148 = .ok (.getfield 118, 3) := by decide +kernel
theorem dX12_piles_151 : decode cX12_piles 151 = .ok (.iload 4, 2) := by decide +kernel
theorem dX12_piles_153 : decode cX12_piles 153 = .ok (.iaload, 1) := by decide +kernel
theorem dX12_piles_154 : decode cX12_piles 154 = .ok (.ireturn, 1) := by decide +kernel
theorem dX12_shape_0 : decode cX12_shape 0 = .ok (.aload_n 0, 1) := by decide +kernel
theorem dX12_shape_1 : decode cX12_shape 1 = .ok (.iconst 0, 1) := by decide +kernel
theorem dX12_shape_2 : decode cX12_shape 2 = .ok (.putfield 1, 3) := by decide +kernel
theorem dX12_shape_5 : decode cX12_shape 5 = .ok (.aload_n 0, 1) := by decide +kernel
theorem dX12_shape_6 : decode cX12_shape 6 = .ok (.iload_n 1, 1) := by decide +kernel
theorem dX12_shape_7 : decode cX12_shape 7 = .ok (.iload_n 2, 1) := by decide +kernel
theorem dX12_shape_8 : decode cX12_shape 8 = .ok (.iload_n 3, 1) := by decide +kernel
theorem dX12_shape_9 : decode cX12_shape 9 = .ok (.invokevirtual 330, 3) := by decide +kernel
theorem dX12_shape_12 : decode cX12_shape 12 = .ok (.ifCond .eq 14, 3) := by decide +kernel
theorem dX12_shape_15 : decode cX12_shape 15 = .ok (.iload 4, 2) := by decide +kernel
theorem dX12_shape_17 : decode cX12_shape 17 = .ok (.iconst 0, 1) := by decide +kernel
theorem dX12_shape_18 : decode cX12_shape 18 = .ok (.bipush 20, 2) := by decide +kernel
theorem dX12_shape_20 : decode cX12_shape 20 = .ok (.invokestatic 358, 3) := by decide +kernel
theorem dX12_shape_23 : decode cX12_shape 23 = .ok (.ifCond .ne 5, 3) := by decide +kernel
theorem dX12_shape_26 : decode cX12_shape 26 = .ok (.iconst (-1), 1) := by decide +kernel
theorem dX12_shape_27 : decode cX12_shape 27 = .ok (.ireturn, 1) := by decide +kernel
theorem dX12_shape_28 : decode cX12_shape 28 = .ok (.aload_n 0, 1) := by decide +kernel
theorem dX12_shape_29 : decode cX12_shape 29 = .ok (.iload_n 1, 1) := by decide +kernel
theorem dX12_shape_30 : decode cX12_shape 30 = .ok (.invokevirtual 324, 3) := by decide +kernel
theorem dX12_shape_33 : decode cX12_shape 33 = .ok (.iconst 0, 1) := by decide +kernel
theorem dX12_shape_34 : decode cX12_shape 34 = .ok (.istore 5, 2) := by decide +kernel
theorem dX12_shape_36 : decode cX12_shape 36 = .ok (.iload 5, 2) := by decide +kernel
theorem dX12_shape_38 : decode cX12_shape 38 = .ok (.bipush 20, 2) := by decide +kernel
theorem dX12_shape_40 : decode cX12_shape 40 = .ok (.if_icmp .gt 17, 3) := by decide +kernel
theorem dX12_shape_43 : decode cX12_shape 43 = .ok (.aload_n 0, 1) := by decide +kernel
theorem dX12_shape_44 : decode cX12_shape 44 = .ok (.getfield 124, 3) := by decide +kernel
theorem dX12_shape_47 : decode cX12_shape 47 = .ok (.iload 5, 2) := by decide +kernel
theorem dX12_shape_49 : decode cX12_shape 49 = .ok (.iconst 0, 1) := by decide +kernel
theorem dX12_shape_50 : decode cX12_shape 50 = .ok (.iastore, 1) := by decide +kernel
theorem dX12_shape_51 : decode cX12_shape 51 = .ok (.iinc 5 1, 3) := by decide +kernel
theorem dX12_shape_54 : decode cX12_shape 54 = .ok (.goto (-18), 3) := by decide +kernel
theorem dX12_shape_57 : decode cX12_shape 57 = .ok (.iload_n 2, 1) := by decide +kernel
theorem dX12_shape_58 : decode cX12_shape 58 = .ok (.istore 5, 2) := by decide +kernel
theorem dX12_shape_60 : decode cX12_shape 60 = .ok (.iload 5, 2) := by decide +kernel
theorem dX12_shape_62 : decode cX12_shape 62 = .ok (.iload_n 3, 1) := by decide +kernel
theorem dX12_shape_63 : decode cX12_shape 63 = .ok (.if_icmp .ge 20, 3) := by decide +kernel
theorem dX12_shape_66 : decode cX12_shape 66 = .ok (.aload_n 0, 1) := by decide +kernel
theorem dX12_shape_67 : decode cX12_shape 67 = .ok (.aload_n 0, 1) := by decide +kernel
theorem dX12_shape_68 : decode cX12_shape 68 = .ok (.getfield 100, 3) := by decide +kernel
theorem dX12_shape_71 : decode cX12_shape 71 = .ok (.iload 5, 2) := by decide +kernel
theorem dX12_shape_73 : decode cX12_shape 73 = .ok (.iaload, 1) := by decide +kernel
theorem dX12_shape_74 : decode cX12_shape 74 = .ok (.invokevirtual 361, 3) := by decide +kernel
theorem dX12_shape_77 : decode cX12_shape 77 = .ok (.iinc 5 1, 3) := by decide +kernel
theorem dX12_shape_80 : decode cX12_shape 80 = .ok (.goto (-20), 3) := by decide +kernel
theorem dX12_shape_83 : decode cX12_shape 83 = .ok (.aload_n 0, 1) := by decide +kernel
theorem dX12_shape_84 : decode cX12_shape 84 = .ok (.getfield 124, 3) := by decide +kernel
theorem dX12_shape_87 : decode cX12_shape 87 = .ok (.iload 4, 2) := by decide +kernel
theorem dX12_shape_89 : decode cX12_shape 89 = .ok (.iaload, 1) := by decide +kernel
theorem dX12_shape_90 : decode cX12_shape 90 = .ok (.ireturn, 1) := by decide +kernel
theorem dX12_inserts_0 : decode cX12_inserts 0 = .ok (.iload_n 1, 1) := by decide +kernel
theorem dX12_inserts_1 : decode cX12_inserts 1 = .ok (.istore_n 2, 1) := by decide +kernel
theorem dX12_inserts_2 : decode cX12_inserts 2 = .ok (.iconst 0, 1) := by decide +kernel
theorem dX12_inserts_3 : decode cX12_inserts 3 = .ok (.istore_n 3, 1) := by decide +kernel
theorem dX12_inserts_4 : decode cX12_inserts 4 = .ok (.iload_n 3, 1) := by decide +kernel
theorem dX12_inserts_5 : decode cX12_inserts 5 = .ok (.bipush 20, 2) := by decide +kernel
theorem dX12_inserts_7 : decode cX12_inserts 7 = .ok (.if_icmp .gt 127, 3) := by decide +kernel
theorem dX12_inserts_10 : decode cX12_inserts 10 = .ok (.bipush 20, 2) := by decide +kernel
theorem dX12_inserts_12 : decode cX12_inserts 12 = .ok (.iload_n 3, 1) := by decide +kernel
theorem dX12_inserts_13 : decode cX12_inserts 13 = .ok (.imul, 1) := by decide +kernel
theorem dX12_inserts_14 : decode cX12_inserts 14 = .ok (.istore 4, 2) := by decide +kernel
theorem dX12_inserts_16 : decode cX12_inserts 16 = .ok (.aload_n 0, 1) := by decide +kernel
theorem dX12_inserts_17 : decode cX12_inserts 17 = .ok (.getfield 124, 3) := by decide +kernel
theorem dX12_inserts_20 : decode cX12_inserts 20 = .ok (.iload_n 3, 1) := by decide +kernel
theorem dX12_inserts_21 : decode cX12_inserts 21 = .ok (.iaload, 1) := by decide +kernel
theorem dX12_inserts_22 : decode cX12_inserts 22 = .ok (.ifCond .eq 27, 3) := by decide +kernel
theorem dX12_inserts_25 : decode cX12_inserts 25 = .ok (.aload_n 0, 1) := by decide +kernel
theorem dX12_inserts_26 : decode cX12_inserts 26 = .ok (.iload_n 2, 1) := by decide +kernel
theorem dX12_inserts_27 : decode cX12_inserts 27 = .ok (.aload_n 0, 1) := by decide +kernel
theorem dX12_inserts_28 : decode cX12_inserts 28 = .ok (.getfield 121, 3) := by decide +kernel
theorem dX12_inserts_31 : decode cX12_inserts 31 = .ok (.iload 4, 2) := by decide +kernel
theorem dX12_inserts_33 : decode cX12_inserts 33 = .ok (.aload_n 0, 1) := by decide +kernel
theorem dX12_inserts_34 : decode cX12_inserts 34 = .ok (.getfield 124, 3) := by decide +kernel
theorem dX12_inserts_37 : decode cX12_inserts 37 = .ok (.iload_n 3, 1) := by decide +kernel
theorem dX12_inserts_38 : decode cX12_inserts 38 = .ok (.iaload, 1) := by decide +kernel
theorem dX12_inserts_39 : decode cX12_inserts 39 = .ok (.iadd, 1) := by decide +kernel
theorem dX12_inserts_40 : decode cX12_inserts 40 = .ok (.iconst 1, 1) := by decide +kernel
theorem dX12_inserts_41 : decode cX12_inserts 41 = .ok (.isub, 1) := by decide +kernel
theorem dX12_inserts_42 : decode cX12_inserts 42 = .ok (.iaload, 1) := by decide +kernel
theorem dX12_inserts_43 : decode cX12_inserts 43 = .ok (.invokevirtual 314, 3) := by decide +kernel
theorem dX12_inserts_46 : decode cX12_inserts 46 = .ok (.ifCond .eq 29, 3) := by decide +kernel
theorem dX12_inserts_49 : decode cX12_inserts 49 = .ok (.aload_n 0, 1) := by decide +kernel
theorem dX12_inserts_50 : decode cX12_inserts 50 = .ok (.getfield 121, 3) := by decide +kernel
theorem dX12_inserts_53 : decode cX12_inserts 53 = .ok (.iload 4, 2) := by decide +kernel
theorem dX12_inserts_55 : decode cX12_inserts 55 = .ok (.aload_n 0, 1) := by decide +kernel
theorem dX12_inserts_56 : decode cX12_inserts 56 = .ok (.getfield 124, 3) := by decide +kernel
theorem dX12_inserts_59 : decode cX12_inserts 59 = .ok (.iload_n 3, 1) := by decide +kernel
theorem dX12_inserts_60 : decode cX12_inserts 60 = .ok (.iaload, 1) := by decide +kernel
theorem dX12_inserts_61 : decode cX12_inserts 61 = .ok (.iadd, 1) := by decide +kernel
theorem dX12_inserts_62 : decode cX12_inserts 62 = .ok (.iload_n 2, 1) := by decide +kernel
theorem dX12_inserts_63 : decode cX12_inserts 63 = .ok (.iastore, 1) := by decide +kernel
theorem dX12_inserts_64 : decode cX12_inserts 64 = .ok (.aload_n 0, 1) := by decide +kernel
theorem dX12_inserts_65 : decode cX12_inserts 65 = .ok (.getfield 124, 3) := by decide +kernel
theorem dX12_inserts_68 : decode cX12_inserts 68 = .ok (.iload_n 3, 1) := by decide +kernel
theorem dX12_inserts_69 : decode cX12_inserts 69 = .ok (.dup2, 1) := by decide +kernel
theorem dX12_inserts_70 : decode cX12_inserts 70 = .ok (.iaload, 1) := by decide +kernel
theorem dX12_inserts_71 : decode cX12_inserts 71 = .ok (.iconst 1, 1) := by decide +kernel
theorem dX12_inserts_72 : decode cX12_inserts 72 = .ok (.iadd, 1) := by decide +kernel
theorem dX12_inserts_73 : decode cX12_inserts 73 = .ok (.iastore, 1) := by decide +kernel
theorem dX12_inserts_74 : decode cX12_inserts 74 = .ok (.return_, 1) := by decide +kernel
theorem dX12_inserts_75 : decode cX12_inserts 75 = .ok (.iconst 0, 1) := by decide +kernel
theorem dX12_inserts_76 : decode cX12_inserts 76 = .ok (.istore 5, 2) := by decide +kernel
theorem dX12_inserts_78 : decode cX12_inserts 78 = .ok (.aload_n 0, 1) := by decide +kernel
theorem dX12_inserts_79 : decode cX12_inserts 79 = .ok (.iload_n 2, 1) := by decide +kernel
theorem dX12_inserts_80 : decode cX12_inserts 80 = .ok (.aload_n 0, 1) := by decide +kernel
theorem dX12_inserts_81 : decode cX12_inserts 81 = .ok (.getfield 121, 3) := by decide +kernel
theorem dX12_inserts_84 : decode cX12_inserts 84 = .ok (.iload 4, 2) := by decide +kernel
theorem dX12_inserts_86 : decode cX12_inserts 86 = .ok (.iload 5, 2) := by decide +kernel
theorem dX12_inserts_88 : decode cX12_inserts 88 = .ok (.iadd, 1) := by decide +kernel
theorem dX12_inserts_89 : decode cX12_inserts 89 = .ok (.iaload, 1) := by decide +kernel
theorem dX12_inserts_90 : decode cX12_inserts 90 = .ok (.invokevirtual 314, 3) := by decide +kernel
theorem dX12_inserts_93 : decode cX12_inserts 93 = .ok (.ifCond .eq 9, 3) := by decide +kernel
theorem dX12_inserts_96 : decode cX12_inserts 96 = .ok (.iinc 5 1, 3) := by decide +kernel
theorem dX12_inserts_99 : decode cX12_inserts 99 = .ok (.goto (-21), 3) := by decide +kernel
theorem dX12_inserts_102 : decode cX12_inserts 102 = .ok (.aload_n 0, 1) := by decide +kernel
theorem dX12_inserts_103 : decode cX12_inserts 103 = .ok (.getfield 121, 3) := by decide +kernel
theorem dX12_inserts_106 : decode cX12_inserts 106 = .ok (.iload 4, 2) := by decide +kernel
theorem dX12_inserts_108 : decode cX12_inserts 108 = .ok (.iload 5, 2) := by decide +kernel
theorem dX12_inserts_110 : decode cX12_inserts 110 = .ok (.iadd, 1) := by decide +kernel
theorem dX12_inserts_111 : decode cX12_inserts 111 = .ok (.iaload, 1) := by decide +kernel
theorem dX12_inserts_112 : decode cX12_inserts 112 = .ok (.istore 6, 2) := by decide +kernel
theorem dX12_inserts_114 : decode cX12_inserts 114 = .ok (.aload_n 0, 1) := by decide +kernel
theorem dX12_inserts_115 : decode cX12_inserts 115 = .ok (.getfield 121, 3) := by decide +kernel
theorem dX12_inserts_118 : decode cX12_inserts 118 = .ok (.iload 4, 2) := by decide +kernel
theorem dX12_inserts_120 : decode cX12_inserts 120 = .ok (.iload 5, 2) := by decide +kernel
theorem dX12_inserts_122 : decode cX12_inserts 122 = .ok (.iadd, 1) := by decide +kernel
theorem dX12_inserts_123 : decode cX12_inserts 123 = .ok (.iload_n 2, 1) := by decide +kernel
theorem dX12_inserts_124 : decode cX12_inserts 124 = .ok (.iastore, 1) := by decide +kernel
theorem dX12_inserts_125 : decode cX12_inserts 125 = .ok (.iload 6, 2) := by decide +kernel
theorem dX12_inserts_127 : decode cX12_inserts 127 = .ok (.istore_n 2, 1) := by decide +kernel
theorem dX12_inserts_128 : decode cX12_inserts 128 = .ok (.iinc 3 1, 3) := by decide +kernel
theorem dX12_inserts_131 : decode cX12_inserts 131 = .ok (.goto (-127), 3) := by decide +kernel
theorem dX12_inserts_134 : decode cX12_inserts 134 = .ok (.return_, 1) := by decide +kernel
theorem dX12_findsCommon_0 : decode cX12_findsCommon 0 = .ok (.aload_n 0, 1) := by decide +kernel
theorem dX12_findsCommon_1 : decode cX12_findsCommon 1 = .ok (.iload_n 1, 1) := by decide +kernel
theorem dX12_findsCommon_2 : decode cX12_findsCommon 2 = .ok (.invokevirtual 324, 3) := by decide +kernel
theorem dX12_findsCommon_5 : decode cX12_findsCommon 5 = .ok (.aload_n 0, 1) := by decide +kernel
theorem dX12_findsCommon_6 : decode cX12_findsCommon 6 = .ok (.getfield 304, 3) := by decide +kernel
theorem dX12_findsCommon_9 : decode cX12_findsCommon 9 = .ok (.istore_n 3, 1) := by decide +kernel
theorem dX12_findsCommon_10 : decode cX12_findsCommon 10 = .ok (.iconst 0, 1) := by decide +kernel
theorem dX12_findsCommon_11 : decode cX12_findsCommon 11 = .ok (.istore 4, 2) := by decide +kernel
theorem dX12_findsCommon_13 : decode cX12_findsCommon 13 = .ok (.iload 4, 2) := by decide +kernel
theorem dX12_findsCommon_15 : decode cX12_findsCommon 15 = .ok (.iload_n 3, 1) := by decide +kernel
theorem dX12_findsCommon_16 : decode cX12_findsCommon 16 = .ok (.if_icmp .ge 23, 3) := by decide +kernel
theorem dX12_findsCommon_19 : decode cX12_findsCommon 19 = .ok (.aload_n 0, 1) := by decide +kernel
theorem dX12_findsCommon_20 : decode cX12_findsCommon 20 = .ok (.getfield 127, 3) := by decide +kernel
theorem dX12_findsCommon_23 : decode cX12_findsCommon 23 = .ok (.iload 4, 2) := by decide +kernel
theorem dX12_findsCommon_25 : decode cX12_findsCommon 25 = .ok (.aload_n 0, 1) := by decide +kernel
theorem dX12_findsCommon_26 : decode cX12_findsCommon 26 = .ok (.getfield 100, 3) := by decide +kernel
theorem dX12_findsCommon_29 : decode cX12_findsCommon 29 = .ok (.iload 4, 2) := by decide +kernel
theorem dX12_findsCommon_31 : decode cX12_findsCommon 31 = .ok (.iaload, 1) := by decide +kernel
theorem dX12_findsCommon_32 : decode cX12_findsCommon 32 = .ok (.iastore, 1) := by decide +kernel
theorem dX12_findsCommon_33 : decode cX12_findsCommon 33 = .ok (.iinc 4 1, 3) := by decide +kernel
theorem dX12_findsCommon_36 : decode cX12_findsCommon 36 = .ok (.goto (-23), 3) := by decide +kernel
theorem dX12_findsCommon_39 : decode cX12_findsCommon 39 = .ok (.aload_n 0, 1) := by decide +kernel
theorem dX12_findsCommon_40 : decode cX12_findsCommon 40 = .ok (.iload_n 2, 1) := by decide +kernel
theorem dX12_findsCommon_41 : decode cX12_findsCommon 41 = .ok (.invokevirtual 324, 3) := by decide +kernel
theorem dX12_findsCommon_44 : decode cX12_findsCommon 44 = .ok (.iconst 0, 1) := by decide +kernel
theorem dX12_findsCommon_45 : decode cX12_findsCommon 45 = .ok (.istore 4, 2) := by decide +kernel
theorem dX12_findsCommon_47 : decode cX12_findsCommon 47 = .ok (.iload 4, 2) := by decide +kernel
theorem dX12_findsCommon_49 : decode cX12_findsCommon 49 = .ok (.aload_n 0, 1) := by decide +kernel
theorem dX12_findsCommon_50 : decode cX12_findsCommon 50 = .ok (.getfield 304, 3) := by decide +kernel
theorem dX12_findsCommon_53 : decode cX12_findsCommon 53 = .ok (.if_icmp .gt 184, 3) := by decide +kernel
theorem dX12_findsCommon_56 : decode cX12_findsCommon 56 = .ok (.iconst 0, 1) := by decide +kernel
theorem dX12_findsCommon_57 : decode cX12_findsCommon 57 = .ok (.istore 5, 2) := by decide +kernel
theorem dX12_findsCommon_59 : decode cX12_findsCommon 59 = .ok (.iload 5, 2) := by decide +kernel
theorem dX12_findsCommon_61 : decode cX12_findsCommon 61 = .ok (.iload_n 3, 1) := by decide +kernel
theorem dX12_findsCommon_62 : decode cX12_findsCommon 62 = .ok (.if_icmp .gt 17, 3) := by decide +kernel
theorem dX12_findsCommon_65 : decode cX12_findsCommon 65 = .ok (.aload_n 0, 1) := by decide +kernel
theorem dX12_findsCommon_66 : decode cX12_findsCommon 66 = .ok (.getfield 130, 3) := by decide +kernel
theorem dX12_findsCommon_69 : decode cX12_findsCommon 69 = .ok (.iload 5, 2) := by decide +kernel
theorem dX12_findsCommon_71 : decode cX12_findsCommon 71 = .ok (.iconst 0, 1) := by decide +kernel
theorem dX12_findsCommon_72 : decode cX12_findsCommon 72 = .ok (.iastore, 1) := by decide +kernel
theorem dX12_findsCommon_73 : decode cX12_findsCommon 73 = .ok (.iinc 5 1, 3) := by decide +kernel
theorem dX12_findsCommon_76 : decode cX12_findsCommon 76 = .ok (.goto (-17), 3) := by decide +kernel
theorem dX12_findsCommon_79 : decode cX12_findsCommon 79 = .ok (.aload_n 0, 1) := by decide +kernel
theorem dX12_findsCommon_80 : decode cX12_findsCommon 80 = .ok (.getfield 103, 3) := by decide +kernel
theorem dX12_findsCommon_83 : decode cX12_findsCommon 83 = .ok (.bipush 21, 2) := by decide +kernel
theorem dX12_findsCommon_85 : decode cX12_findsCommon 85 = .ok (.iload 4, 2) := by decide +kernel
theorem dX12_findsCommon_87 : decode cX12_findsCommon 87 = .ok (.imul, 1) := by decide +kernel
theorem dX12_findsCommon_88 : decode cX12_findsCommon 88 = .ok (.iload 4, 2) := by decide +kernel
theorem dX12_findsCommon_90 : decode cX12_findsCommon 90 = .ok (.iadd, 1) := by decide +kernel
theorem dX12_findsCommon_91 : decode cX12_findsCommon 91 = .ok (.iconst 0, 1) := by decide +kernel
theorem dX12_findsCommon_92 : decode cX12_findsCommon 92 = .ok (.iastore, 1) := by decide +kernel
theorem dX12_findsCommon_93 : decode cX12_findsCommon 93 = .ok (.iload 4, 2) := by decide +kernel
theorem dX12_findsCommon_95 : decode cX12_findsCommon 95 = .ok (.iconst 1, 1) := by decide +kernel
theorem dX12_findsCommon_96 : decode cX12_findsCommon 96 = .ok (.iadd, 1) := by decide +kernel
theorem dX12_findsCommon_97 : decode cX12_findsCommon 97 = .ok (.istore 5, 2) := by decide +kernel
theorem dX12_findsCommon_99 : decode cX12_findsCommon 99 = .ok (.iload 5, 2) := by decide +kernel
theorem dX12_findsCommon_101 : decode cX12_findsCommon 101 = .ok (.aload_n 0, 1) := by decide +kernel
theorem dX12_findsCommon_102 : decode cX12_findsCommon 102 = .ok (.getfield 304, 3) := by decide +kernel
theorem dX12_findsCommon_105 : decode cX12_findsCommon 105 = .ok (.if_icmp .gt 126, 3) := by decide +kernel
theorem dX12_findsCommon_108 : decode cX12_findsCommon 108 = .ok (.iconst 0, 1) := by decide +kernel
theorem dX12_findsCommon_109 : decode cX12_findsCommon 109 = .ok (.istore 6, 2) := by decide +kernel
theorem dX12_findsCommon_111 : decode cX12_findsCommon 111 = .ok (.iconst 1, 1) := by decide +kernel
theorem dX12_findsCommon_112 : decode cX12_findsCommon 112 = .ok (.istore 7, 2) := by decide +kernel
theorem dX12_findsCommon_114 : decode cX12_findsCommon 114 = .ok (.iload 7, 2) := by decide +kernel
theorem dX12_findsCommon_116 : decode cX12_findsCommon 116 = .ok (.iload_n 3, 1) := by decide +kernel
theorem dX12_findsCommon_117 : decode cX12_findsCommon 117 = .ok (.if_icmp .gt 89, 3) := by decide +kernel
theorem dX12_findsCommon_120 : decode cX12_findsCommon 120 = .ok (.aload_n 0, 1) := by decide +kernel
theorem dX12_findsCommon_121 : decode cX12_findsCommon 121 = .ok (.getfield 130, 3) := by decide +kernel
theorem dX12_findsCommon_124 : decode cX12_findsCommon 124 = .ok (.iload 7, 2) := by decide +kernel
theorem dX12_findsCommon_126 : decode cX12_findsCommon 126 = .ok (.iaload, 1) := by decide +kernel
theorem dX12_findsCommon_127 : decode cX12_findsCommon 127 = .ok (.istore 8, 2) := by decide +kernel
theorem dX12_findsCommon_129 : decode cX12_findsCommon 129 = .ok (.aload_n 0, 1) := by decide +kernel
theorem dX12_findsCommon_130 : decode cX12_findsCommon 130 = .ok (.getfield 127, 3) := by decide +kernel
theorem dX12_findsCommon_133 : decode cX12_findsCommon 133 = .ok (.iload 7, 2) := by decide +kernel
theorem dX12_findsCommon_135 : decode cX12_findsCommon 135 = .ok (.iconst 1, 1) := by decide +kernel
theorem dX12_findsCommon_136 : decode cX12_findsCommon 136 = .ok (.isub, 1) := by decide +kernel
theorem dX12_findsCommon_137 : decode cX12_findsCommon 137 = .ok (.iaload, 1) := by decide +kernel
theorem dX12_findsCommon_138 : decode cX12_findsCommon 138 = .ok (.aload_n 0, 1) := by decide +kernel
theorem dX12_findsCommon_139 : decode cX12_findsCommon 139 = .ok (.getfield 100, 3) := by decide +kernel
theorem dX12_findsCommon_142 : decode cX12_findsCommon 142 = .ok (.iload 5, 2) := by decide +kernel
theorem dX12_findsCommon_144 : decode cX12_findsCommon 144 = .ok (.iconst 1, 1) := by decide +kernel
theorem dX12_findsCommon_145 : decode cX12_findsCommon 145 = .ok (.isub, 1) := by decide +kernel
theorem dX12_findsCommon_146 : decode cX12_findsCommon 146 = .ok (.iaload, 1) := by decide +kernel
theorem dX12_findsCommon_147 : decode cX12_findsCommon 147 = .ok (.if_icmp .ne 10, 3) := by decide +kernel
theorem dX12_findsCommon_150 : decode cX12_findsCommon 150 = .ok (.iload 6, 2) := by decide +kernel
theorem dX12_findsCommon_152 : decode cX12_findsCommon 152 = .ok (.iconst 1, 1) := by decide +kernel
theorem dX12_findsCommon_153 : decode cX12_findsCommon 153 = .ok (.iadd, 1) := by decide +kernel
theorem dX12_findsCommon_154 : decode cX12_findsCommon 154 = .ok (.goto 31, 3) := by decide +kernel
theorem dX12_findsCommon_157 : decode cX12_findsCommon 157 = .ok (.iload 8, 2) := by decide +kernel
theorem dX12_findsCommon_159 : decode cX12_findsCommon 159 = .ok (.aload_n 0, 1) := by decide +kernel
theorem dX12_findsCommon_160 : decode cX12_findsCommon 160 = .ok (.getfield 130, 3) := by decide +kernel
theorem dX12_findsCommon_163 : decode cX12_findsCommon 163 = .ok (.iload 7, 2) := by decide +kernel
theorem dX12_findsCommon_165 : decode cX12_findsCommon 165 = .ok (.iconst 1, 1) := by decide +kernel
theorem dX12_findsCommon_166 : decode cX12_findsCommon 166 = .ok (.isub, 1) := by decide +kernel
theorem dX12_findsCommon_167 : decode cX12_findsCommon 167 = .ok (.iaload, 1) := by decide +kernel
theorem dX12_findsCommon_168 : decode cX12_findsCommon 168 = .ok (.if_icmp .le 8, 3) := by decide +kernel
theorem dX12_findsCommon_171 : decode cX12_findsCommon 171 = .ok (.iload 8, 2) := by decide +kernel
theorem dX12_findsCommon_173 : decode cX12_findsCommon 173 = .ok (.goto 12, 3) := by decide +kernel
theorem dX12_findsCommon_176 : decode cX12_findsCommon 176 = .ok (.aload_n 0, 1) := by decide +kernel
theorem dX12_findsCommon_177 : decode cX12_findsCommon 177 = .ok (.getfield 130, 3) := by decide +kernel
theorem dX12_findsCommon_180 : decode cX12_findsCommon 180 = .ok (.iload 7, 2) := by decide +kernel
theorem dX12_findsCommon_182 : decode cX12_findsCommon 182 = .ok (.iconst 1, 1) := by decide +kernel
theorem dX12_findsCommon_183 : decode cX12_findsCommon 183 = .ok (.isub, 1) := by decide +kernel
theorem dX12_findsCommon_184 : decode cX12_findsCommon 184 = .ok (.iaload, 1) := by decide +kernel
theorem dX12_findsCommon_185 : decode cX12_findsCommon 185 = .ok (.istore 9, 2) := by decide +kernel
theorem dX12_findsCommon_187 : decode cX12_findsCommon 187 = .ok (.aload_n 0, 1) := by decide +kernel
theorem dX12_findsCommon_188 : decode cX12_findsCommon 188 = .ok (.getfield 130, 3) := by decide +kernel
theorem dX12_findsCommon_191 : decode cX12_findsCommon 191 = .ok (.iload 7, 2) := by decide +kernel
theorem dX12_findsCommon_193 : decode cX12_findsCommon 193 = .ok (.iload 9, 2) := by decide +kernel
theorem dX12_findsCommon_195 : decode cX12_findsCommon 195 = .ok (.iastore, 1) := by decide +kernel
theorem dX12_findsCommon_196 : decode cX12_findsCommon 196 = .ok (.iload 8, 2) := by decide +kernel
theorem dX12_findsCommon_198 : decode cX12_findsCommon 198 = .ok (.istore 6, 2) := by decide +kernel
theorem dX12_findsCommon_200 : decode cX12_findsCommon 200 = .ok (.iinc 7 1, 3) := by decide +kernel
theorem dX12_findsCommon_203 : decode cX12_findsCommon 203 = .ok (.goto (-89), 3) := by decide +kernel
theorem dX12_findsCommon_206 : decode cX12_findsCommon 206 = .ok (.aload_n 0, 1) := by decide +kernel
theorem dX12_findsCommon_207 : decode cX12_findsCommon 207 = .ok (.getfield 103, 3) := by decide +kernel
theorem dX12_findsCommon_210 : decode cX12_findsCommon 210 = .ok (.bipush 21, 2) := by decide +kernel
theorem dX12_findsCommon_212 : decode cX12_findsCommon 212 = .ok (.iload 4, 2) := by decide +kernel
theorem dX12_findsCommon_214 : decode cX12_findsCommon 214 = .ok (.imul, 1) := by decide +kernel
theorem dX12_findsCommon_215 : decode cX12_findsCommon 215 = .ok (.iload 5, 2) := by decide +kernel
theorem dX12_findsCommon_217 : decode cX12_findsCommon 217 = .ok (.iadd, 1) := by decide +kernel
theorem dX12_findsCommon_218 : decode cX12_findsCommon 218 = .ok (.aload_n 0, 1) := by decide +kernel
theorem dX12_findsCommon_219 : decode cX12_findsCommon 219 = .ok (.getfield 130, 3) := by decide +kernel
theorem dX12_findsCommon_222 : decode cX12_findsCommon 222 = .ok (.iload_n 3, 1) := by decide +kernel
theorem dX12_findsCommon_223 : decode cX12_findsCommon 223 = .ok (.iaload, 1) := by decide +kernel
theorem dX12_findsCommon_224 : decode cX12_findsCommon 224 = .ok (.iastore, 1) := by decide +kernel
theorem dX12_findsCommon_225 : decode cX12_findsCommon 225 = .ok (.iinc 5 1, 3) := by decide +kernel
theorem dX12_findsCommon_228 : decode cX12_findsCommon 228 = .ok (.goto (-129), 3) := by decide +kernel
theorem dX12_findsCommon_231 : decode cX12_findsCommon 231 = .ok (.iinc 4 1, 3) := by decide +kernel
theorem dX12_findsCommon_234 : decode cX12_findsCommon 234 = .ok (.goto (-187), 3) := by decide +kernel
theorem dX12_findsCommon_237 : decode cX12_findsCommon 237 = .ok (.return_, 1) := by decide +kernel
theorem dX12_common_0 : decode cX12_common 0 = .ok (.aload_n 0, 1) := by decide +kernel
theorem dX12_common_1 : decode cX12_common 1 = .ok (.iconst 0, 1) := by decide +kernel
theorem dX12_common_2 : decode cX12_common 2 = .ok (.putfield 1, 3) := by decide +kernel
theorem dX12_common_5 : decode cX12_common 5 = .ok (.aload_n 0, 1) := by decide +kernel
theorem dX12_common_6 : decode cX12_common 6 = .ok (.iload_n 1, 1) := by decide +kernel
theorem dX12_common_7 : decode cX12_common 7 = .ok (.invokevirtual 289, 3) := by decide +kernel
theorem dX12_common_10 : decode cX12_common 10 = .ok (.ifCond .eq 14, 3) := by decide +kernel
theorem dX12_common_13 : decode cX12_common 13 = .ok (.aload_n 0, 1) := by decide +kernel
theorem dX12_common_14 : decode cX12_common 14 = .ok (.iload_n 2, 1) := by decide +kernel
theorem dX12_common_15 : decode cX12_common 15 = .ok (.iload_n 3, 1) := by decide +kernel
theorem dX12_common_16 : decode cX12_common 16 = .ok (.iload 4, 2) := by decide +kernel
theorem dX12_common_18 : decode cX12_common 18 = .ok (.invokevirtual 330, 3) := by decide +kernel
theorem dX12_common_21 : decode cX12_common 21 = .ok (.ifCond .ne 5, 3) := by decide +kernel
theorem dX12_common_24 : decode cX12_common 24 = .ok (.iconst (-1), 1) := by decide +kernel
theorem dX12_common_25 : decode cX12_common 25 = .ok (.ireturn, 1) := by decide +kernel
theorem dX12_common_26 : decode cX12_common 26 = .ok (.aload_n 0, 1) := by decide +kernel
theorem dX12_common_27 : decode cX12_common 27 = .ok (.iload_n 1, 1) := by decide +kernel
theorem dX12_common_28 : decode cX12_common 28 = .ok (.iload_n 2, 1) := by decide +kernel
theorem dX12_common_29 : decode cX12_common 29 = .ok (.invokevirtual 364, 3) := by decide +kernel
theorem dX12_common_32 : decode cX12_common 32 = .ok (.aload_n 0, 1) := by decide +kernel
theorem dX12_common_33 : decode cX12_common 33 = .ok (.iload_n 3, 1) := by decide +kernel
theorem dX12_common_34 : decode cX12_common 34 = .ok (.iload 4, 2) := by decide +kernel
theorem dX12_common_36 : decode cX12_common 36 = .ok (.invokevirtual 321, 3) := by decide +kernel
theorem dX12_common_39 : decode cX12_common 39 = .ok (.ireturn, 1) := by decide +kernel
theorem dX12_meets_0 : decode cX12_meets 0 = .ok (.aload_n 0, 1) := by decide +kernel
theorem dX12_meets_1 : decode cX12_meets 1 = .ok (.iconst 0, 1) := by decide +kernel
theorem dX12_meets_2 : decode cX12_meets 2 = .ok (.putfield 1, 3) := by decide +kernel
theorem dX12_meets_5 : decode cX12_meets 5 = .ok (.aload_n 0, 1) := by decide +kernel
theorem dX12_meets_6 : decode cX12_meets 6 = .ok (.iload_n 1, 1) := by decide +kernel
theorem dX12_meets_7 : decode cX12_meets 7 = .ok (.invokevirtual 289, 3) := by decide +kernel
theorem dX12_meets_10 : decode cX12_meets 10 = .ok (.ifCond .eq 12, 3) := by decide +kernel
theorem dX12_meets_13 : decode cX12_meets 13 = .ok (.aload_n 0, 1) := by decide +kernel
theorem dX12_meets_14 : decode cX12_meets 14 = .ok (.iload_n 2, 1) := by decide +kernel
theorem dX12_meets_15 : decode cX12_meets 15 = .ok (.iload_n 3, 1) := by decide +kernel
theorem dX12_meets_16 : decode cX12_meets 16 = .ok (.invokevirtual 352, 3) := by decide +kernel
theorem dX12_meets_19 : decode cX12_meets 19 = .ok (.ifCond .ne 5, 3) := by decide +kernel
theorem dX12_meets_22 : decode cX12_meets 22 = .ok (.iconst (-1), 1) := by decide +kernel
theorem dX12_meets_23 : decode cX12_meets 23 = .ok (.ireturn, 1) := by decide +kernel
theorem dX12_meets_24 : decode cX12_meets 24 = .ok (.aload_n 0, 1) := by decide +kernel
theorem dX12_meets_25 : decode cX12_meets 25 = .ok (.iload_n 1, 1) := by decide +kernel
theorem dX12_meets_26 : decode cX12_meets 26 = .ok (.iload_n 2, 1) := by decide +kernel
theorem dX12_meets_27 : decode cX12_meets 27 = .ok (.invokevirtual 364, 3) := by decide +kernel
theorem dX12_meets_30 : decode cX12_meets 30 = .ok (.aload_n 0, 1) := by decide +kernel
theorem dX12_meets_31 : decode cX12_meets 31 = .ok (.iload_n 3, 1) := by decide +kernel
theorem dX12_meets_32 : decode cX12_meets 32 = .ok (.invokevirtual 355, 3) := by decide +kernel
theorem dX12_meets_35 : decode cX12_meets 35 = .ok (.ireturn, 1) := by decide +kernel
theorem dX12_countOf_0 : decode cX12_countOf 0 = .ok (.iconst 0, 1) := by decide +kernel
theorem dX12_countOf_1 : decode cX12_countOf 1 = .ok (.istore 4, 2) := by decide +kernel
theorem dX12_countOf_3 : decode cX12_countOf 3 = .ok (.iload_n 2, 1) := by decide +kernel
theorem dX12_countOf_4 : decode cX12_countOf 4 = .ok (.istore 5, 2) := by decide +kernel
theorem dX12_countOf_6 : decode cX12_countOf 6 = .ok (.iload 5, 2) := by decide +kernel
theorem dX12_countOf_8 : decode cX12_countOf 8 = .ok (.iload_n 1, 1) := by decide +kernel
theorem dX12_countOf_9 : decode cX12_countOf 9 = .ok (.if_icmp .ge 27, 3) := by decide +kernel
theorem dX12_countOf_12 : decode cX12_countOf 12 = .ok (.iload 4, 2) := by decide +kernel
theorem dX12_countOf_14 : decode cX12_countOf 14 = .ok (.aload_n 0, 1) := by decide +kernel
theorem dX12_countOf_15 : decode cX12_countOf 15 = .ok (.iload 5, 2) := by decide +kernel
theorem dX12_countOf_17 : decode cX12_countOf 17 = .ok (.iaload, 1) := by decide +kernel
theorem dX12_countOf_18 : decode cX12_countOf 18 = .ok (.iload_n 3, 1) := by decide +kernel
theorem dX12_countOf_19 : decode cX12_countOf 19 = .ok (.if_icmp .ge 7, 3) := by decide +kernel
theorem dX12_countOf_22 : decode cX12_countOf 22 = .ok (.iconst 1, 1) := by decide +kernel
theorem dX12_countOf_23 : decode cX12_countOf 23 = .ok (.goto 4, 3) := by decide +kernel
theorem dX12_countOf_26 : decode cX12_countOf 26 = .ok (.iconst 0, 1) := by decide +kernel
theorem dX12_countOf_27 : decode cX12_countOf 27 = .ok (.iadd, 1) := by decide +kernel
theorem dX12_countOf_28 : decode cX12_countOf 28 = .ok (.istore 4, 2) := by decide +kernel
theorem dX12_countOf_30 : decode cX12_countOf 30 = .ok (.iinc 5 1, 3) := by decide +kernel
theorem dX12_countOf_33 : decode cX12_countOf 33 = .ok (.goto (-27), 3) := by decide +kernel
theorem dX12_countOf_36 : decode cX12_countOf 36 = .ok (.iload 4, 2) := by decide +kernel
theorem dX12_countOf_38 : decode cX12_countOf 38 = .ok (.ireturn, 1) := by decide +kernel
theorem dX12_laysCounts_0 : decode cX12_laysCounts 0 = .ok (.iconst 0, 1) := by decide +kernel
theorem dX12_laysCounts_1 : decode cX12_laysCounts 1 = .ok (.istore_n 3, 1) := by decide +kernel
theorem dX12_laysCounts_2 : decode cX12_laysCounts 2 = .ok (.iload_n 3, 1) := by decide +kernel
theorem dX12_laysCounts_3 : decode cX12_laysCounts 3 = .ok (.iload_n 1, 1) := by decide +kernel
theorem dX12_laysCounts_4 : decode cX12_laysCounts 4 = .ok (.if_icmp .gt 41, 3) := by decide +kernel
theorem dX12_laysCounts_7 : decode cX12_laysCounts 7 = .ok (.iconst 0, 1) := by decide +kernel
theorem dX12_laysCounts_8 : decode cX12_laysCounts 8 = .ok (.istore 4, 2) := by decide +kernel
theorem dX12_laysCounts_10 : decode cX12_laysCounts 10 = .ok (.iload 4, 2) := by decide +kernel
theorem dX12_laysCounts_12 : decode cX12_laysCounts 12 = .ok (.iload_n 1, 1) := by decide +kernel
theorem dX12_laysCounts_13 : decode cX12_laysCounts 13 = .ok (.if_icmp .gt 26, 3) := by decide +kernel
theorem dX12_laysCounts_16 : decode cX12_laysCounts 16 = .ok (.aload_n 2, 1) := by decide +kernel
theorem dX12_laysCounts_17 : decode cX12_laysCounts 17 = .ok (.bipush 11, 2) := by decide +kernel
theorem dX12_laysCounts_19 : decode cX12_laysCounts 19 = .ok (.iload_n 3, 1) := by decide +kernel
theorem dX12_laysCounts_20 : decode cX12_laysCounts 20 = .ok (.imul, 1) := by decide +kernel
theorem dX12_laysCounts_21 : decode cX12_laysCounts 21 = .ok (.iload 4, 2) := by decide +kernel
theorem dX12_laysCounts_23 : decode cX12_laysCounts 23 = .ok (.iadd, 1) := by decide +kernel
theorem dX12_laysCounts_24 : decode cX12_laysCounts 24 = .ok (.aload_n 0, 1) := by decide +kernel
theorem dX12_laysCounts_25 : decode cX12_laysCounts 25 = .ok (.iload_n 1, 1) := by decide +kernel
theorem dX12_laysCounts_26 : decode cX12_laysCounts 26 = .ok (.iload_n 3, 1) := by decide +kernel
theorem dX12_laysCounts_27 : decode cX12_laysCounts 27 = .ok (.iload 4, 2) := by decide +kernel
theorem dX12_laysCounts_29 : decode cX12_laysCounts 29 = .ok (.invokestatic 367, 3) := by decide +kernel
theorem dX12_laysCounts_32 : decode cX12_laysCounts 32 = .ok (.iastore, 1) := by decide +kernel
theorem dX12_laysCounts_33 : decode cX12_laysCounts 33 = .ok (.iinc 4 1, 3) := by decide +kernel
theorem dX12_laysCounts_36 : decode cX12_laysCounts 36 = .ok (.goto (-26), 3) := by decide +kernel
theorem dX12_laysCounts_39 : decode cX12_laysCounts 39 = .ok (.iinc 3 1, 3) := by decide +kernel
theorem dX12_laysCounts_42 : decode cX12_laysCounts 42 = .ok (.goto (-40), 3) := by decide +kernel
theorem dX12_laysCounts_45 : decode cX12_laysCounts 45 = .ok (.return_, 1) := by decide +kernel
theorem dX12_laysBraid_0 : decode cX12_laysBraid 0 = .ok (.iconst 0, 1) := by decide +kernel
theorem dX12_laysBraid_1 : decode cX12_laysBraid 1 = .ok (.istore 4, 2) := by decide +kernel
theorem dX12_laysBraid_3 : decode cX12_laysBraid 3 = .ok (.iload 4, 2) := by decide +kernel
theorem dX12_laysBraid_5 : decode cX12_laysBraid 5 = .ok (.aload_n 0, 1) := by decide +kernel
theorem dX12_laysBraid_6 : decode cX12_laysBraid 6 = .ok (.getfield 93, 3) := by decide +kernel
theorem dX12_laysBraid_9 : decode cX12_laysBraid 9 = .ok (.iload_n 1, 1) := by decide +kernel
theorem dX12_laysBraid_10 : decode cX12_laysBraid 10 = .ok (.bipush 85, 2) := by decide +kernel
theorem dX12_laysBraid_12 : decode cX12_laysBraid 12 = .ok (.iadd, 1) := by decide +kernel
theorem dX12_laysBraid_13 : decode cX12_laysBraid 13 = .ok (.iload_n 2, 1) := by decide +kernel
theorem dX12_laysBraid_14 : decode cX12_laysBraid 14 = .ok (.iadd, 1) := by decide +kernel
theorem dX12_laysBraid_15 : decode cX12_laysBraid 15 = .ok (.iaload, 1) := by decide +kernel
theorem dX12_laysBraid_16 : decode cX12_laysBraid 16 = .ok (.if_icmp .ge 30, 3) := by decide +kernel
theorem dX12_laysBraid_19 : decode cX12_laysBraid 19 = .ok (.aload_n 3, 1) := by decide +kernel
theorem dX12_laysBraid_20 : decode cX12_laysBraid 20 = .ok (.iload 4, 2) := by decide +kernel
theorem dX12_laysBraid_22 : decode cX12_laysBraid 22 = .ok (.aload_n 0, 1) := by decide +kernel
theorem dX12_laysBraid_23 : decode cX12_laysBraid 23 = .ok (.getfield 93, 3) := by decide +kernel
theorem dX12_laysBraid_26 : decode cX12_laysBraid 26 = .ok (.iload_n 1, 1) := by decide +kernel
theorem dX12_laysBraid_27 : decode cX12_laysBraid 27 = .ok (.bipush 101, 2) := by decide +kernel
theorem dX12_laysBraid_29 : decode cX12_laysBraid 29 = .ok (.iadd, 1) := by decide +kernel
theorem dX12_laysBraid_30 : decode cX12_laysBraid 30 = .ok (.bipush 10, 2) := by decide +kernel
theorem dX12_laysBraid_32 : decode cX12_laysBraid 32 = .ok (.iload_n 2, 1) := by decide +kernel
theorem dX12_laysBraid_33 : decode cX12_laysBraid 33 = .ok (.imul, 1) := by decide +kernel
theorem dX12_laysBraid_34 : decode cX12_laysBraid 34 = .ok (.iadd, 1) := by decide +kernel
theorem dX12_laysBraid_35 : decode cX12_laysBraid 35 = .ok (.iload 4, 2) := by decide +kernel
theorem dX12_laysBraid_37 : decode cX12_laysBraid 37 = .ok (.iadd, 1) := by decide +kernel
theorem dX12_laysBraid_38 : decode cX12_laysBraid 38 = .ok (.iaload, 1) := by decide +kernel
theorem dX12_laysBraid_39 : decode cX12_laysBraid 39 = .ok (.iastore, 1) := by decide +kernel
theorem dX12_laysBraid_40 : decode cX12_laysBraid 40 = .ok (.iinc 4 1, 3) := by decide +kernel
theorem dX12_laysBraid_43 : decode cX12_laysBraid 43 = .ok (.goto (-40), 3) := by decide +kernel
theorem dX12_laysBraid_46 : decode cX12_laysBraid 46 = .ok (.return_, 1) := by decide +kernel
theorem dX12_composes_0 : decode cX12_composes 0 = .ok (.aload_n 0, 1) := by decide +kernel
theorem dX12_composes_1 : decode cX12_composes 1 = .ok (.getfield 133, 3) := by decide +kernel
theorem dX12_composes_4 : decode cX12_composes 4 = .ok (.iload_n 1, 1) := by decide +kernel
theorem dX12_composes_5 : decode cX12_composes 5 = .ok (.aload_n 0, 1) := by decide +kernel
theorem dX12_composes_6 : decode cX12_composes 6 = .ok (.getfield 142, 3) := by decide +kernel
theorem dX12_composes_9 : decode cX12_composes 9 = .ok (.invokestatic 371, 3) := by decide +kernel
theorem dX12_composes_12 : decode cX12_composes 12 = .ok (.aload_n 0, 1) := by decide +kernel
theorem dX12_composes_13 : decode cX12_composes 13 = .ok (.getfield 136, 3) := by decide +kernel
theorem dX12_composes_16 : decode cX12_composes 16 = .ok (.iload_n 1, 1) := by decide +kernel
theorem dX12_composes_17 : decode cX12_composes 17 = .ok (.aload_n 0, 1) := by decide +kernel
theorem dX12_composes_18 : decode cX12_composes 18 = .ok (.getfield 145, 3) := by decide +kernel
theorem dX12_composes_21 : decode cX12_composes 21 = .ok (.invokestatic 371, 3) := by decide +kernel
theorem dX12_composes_24 : decode cX12_composes 24 = .ok (.iconst 0, 1) := by decide +kernel
theorem dX12_composes_25 : decode cX12_composes 25 = .ok (.istore_n 2, 1) := by decide +kernel
theorem dX12_composes_26 : decode cX12_composes 26 = .ok (.iload_n 2, 1) := by decide +kernel
theorem dX12_composes_27 : decode cX12_composes 27 = .ok (.iload_n 1, 1) := by decide +kernel
theorem dX12_composes_28 : decode cX12_composes 28 = .ok (.if_icmp .gt 111, 3) := by decide +kernel
theorem dX12_composes_31 : decode cX12_composes 31 = .ok (.iconst 0, 1) := by decide +kernel
theorem dX12_composes_32 : decode cX12_composes 32 = .ok (.istore_n 3, 1) := by decide +kernel
theorem dX12_composes_33 : decode cX12_composes 33 = .ok (.iload_n 3, 1) := by decide +kernel
theorem dX12_composes_34 : decode cX12_composes 34 = .ok (.iload_n 1, 1) := by decide +kernel
theorem dX12_composes_35 : decode cX12_composes 35 = .ok (.if_icmp .gt 98, 3) := by decide +kernel
theorem dX12_composes_38 : decode cX12_composes 38 = .ok (.aload_n 0, 1) := by decide +kernel
theorem dX12_composes_39 : decode cX12_composes 39 = .ok (.getfield 142, 3) := by decide +kernel
theorem dX12_composes_42 : decode cX12_composes 42 = .ok (.bipush 11, 2) := by decide +kernel
theorem dX12_composes_44 : decode cX12_composes 44 = .ok (.iload_n 2, 1) := by decide +kernel
theorem dX12_composes_45 : decode cX12_composes 45 = .ok (.imul, 1) := by decide +kernel
theorem dX12_composes_46 : decode cX12_composes 46 = .ok (.iaload, 1) := by decide +kernel
theorem dX12_composes_47 : decode cX12_composes 47 = .ok (.aload_n 0, 1) := by decide +kernel
theorem dX12_composes_48 : decode cX12_composes 48 = .ok (.getfield 145, 3) := by decide +kernel
theorem dX12_composes_51 : decode cX12_composes 51 = .ok (.iload_n 3, 1) := by decide +kernel
theorem dX12_composes_52 : decode cX12_composes 52 = .ok (.iaload, 1) := by decide +kernel
theorem dX12_composes_53 : decode cX12_composes 53 = .ok (.iadd, 1) := by decide +kernel
theorem dX12_composes_54 : decode cX12_composes 54 = .ok (.istore 4, 2) := by decide +kernel
theorem dX12_composes_56 : decode cX12_composes 56 = .ok (.iconst 1, 1) := by decide +kernel
theorem dX12_composes_57 : decode cX12_composes 57 = .ok (.istore 5, 2) := by decide +kernel
theorem dX12_composes_59 : decode cX12_composes 59 = .ok (.iload 5, 2) := by decide +kernel
theorem dX12_composes_61 : decode cX12_composes 61 = .ok (.iload_n 1, 1) := by decide +kernel
theorem dX12_composes_62 : decode cX12_composes 62 = .ok (.if_icmp .gt 52, 3) := by decide +kernel
theorem dX12_composes_65 : decode cX12_composes 65 = .ok (.aload_n 0, 1) := by decide +kernel
theorem dX12_composes_66 : decode cX12_composes 66 = .ok (.getfield 142, 3) := by decide +kernel
theorem dX12_composes_69 : decode cX12_composes 69 = .ok (.bipush 11, 2) := by decide +kernel
theorem dX12_composes_71 : decode cX12_composes 71 = .ok (.iload_n 2, 1) := by decide +kernel
theorem dX12_composes_72 : decode cX12_composes 72 = .ok (.imul, 1) := by decide +kernel
theorem dX12_composes_73 : decode cX12_composes 73 = .ok (.iload 5, 2) := by decide +kernel
theorem dX12_composes_75 : decode cX12_composes 75 = .ok (.iadd, 1) := by decide +kernel
theorem dX12_composes_76 : decode cX12_composes 76 = .ok (.iaload, 1) := by decide +kernel
theorem dX12_composes_77 : decode cX12_composes 77 = .ok (.aload_n 0, 1) := by decide +kernel
theorem dX12_composes_78 : decode cX12_composes 78 = .ok (.getfield 145, 3) := by decide +kernel
theorem dX12_composes_81 : decode cX12_composes 81 = .ok (.bipush 11, 2) := by decide +kernel
theorem dX12_composes_83 : decode cX12_composes 83 = .ok (.iload 5, 2) := by decide +kernel
theorem dX12_composes_85 : decode cX12_composes 85 = .ok (.imul, 1) := by decide +kernel
theorem dX12_composes_86 : decode cX12_composes 86 = .ok (.iload_n 3, 1) := by decide +kernel
theorem dX12_composes_87 : decode cX12_composes 87 = .ok (.iadd, 1) := by decide +kernel
theorem dX12_composes_88 : decode cX12_composes 88 = .ok (.iaload, 1) := by decide +kernel
theorem dX12_composes_89 : decode cX12_composes 89 = .ok (.iadd, 1) := by decide +kernel
theorem dX12_composes_90 : decode cX12_composes 90 = .ok (.istore 6, 2) := by decide +kernel
theorem dX12_composes_92 : decode cX12_composes 92 = .ok (.iload 6, 2) := by decide +kernel
theorem dX12_composes_94 : decode cX12_composes 94 = .ok (.iload 4, 2) := by decide +kernel
theorem dX12_composes_96 : decode cX12_composes 96 = .ok (.if_icmp .ge 8, 3) := by decide +kernel
theorem dX12_composes_99 : decode cX12_composes 99 = .ok (.iload 6, 2) := by decide +kernel
theorem dX12_composes_101 : decode cX12_composes 101 = .ok (.goto 5, 3) := by decide +kernel
theorem dX12_composes_104 : decode cX12_composes 104 = .ok (.iload 4, 2) := by decide +kernel
theorem dX12_composes_106 : decode cX12_composes 106 = .ok (.istore 4, 2) := by decide +kernel
theorem dX12_composes_108 : decode cX12_composes 108 = .ok (.iinc 5 1, 3) := by decide +kernel
theorem dX12_composes_111 : decode cX12_composes 111 = .ok (.goto (-52), 3) := by decide +kernel
theorem dX12_composes_114 : decode cX12_composes 114 = .ok (.aload_n 0, 1) := by decide +kernel
theorem dX12_composes_115 : decode cX12_composes 115 = .ok (.getfield 148, 3) := by decide +kernel
theorem dX12_composes_118 : decode cX12_composes 118 = .ok (.bipush 11, 2) := by decide +kernel
theorem dX12_composes_120 : decode cX12_composes 120 = .ok (.iload_n 2, 1) := by decide +kernel
theorem dX12_composes_121 : decode cX12_composes 121 = .ok (.imul, 1) := by decide +kernel
theorem dX12_composes_122 : decode cX12_composes 122 = .ok (.iload_n 3, 1) := by decide +kernel
theorem dX12_composes_123 : decode cX12_composes 123 = .ok (.iadd, 1) := by decide +kernel
theorem dX12_composes_124 : decode cX12_composes 124 = .ok (.iload 4, 2) := by decide +kernel
theorem dX12_composes_126 : decode cX12_composes 126 = .ok (.iastore, 1) := by decide +kernel
theorem dX12_composes_127 : decode cX12_composes 127 = .ok (.iinc 3 1, 3) := by decide +kernel
theorem dX12_composes_130 : decode cX12_composes 130 = .ok (.goto (-97), 3) := by decide +kernel
theorem dX12_composes_133 : decode cX12_composes 133 = .ok (.iinc 2 1, 3) := by decide +kernel
theorem dX12_composes_136 : decode cX12_composes 136 = .ok (.goto (-110), 3) := by decide +kernel
theorem dX12_composes_139 : decode cX12_composes 139 = .ok (.iconst 0, 1) := by decide +kernel
theorem dX12_composes_140 : decode cX12_composes 140 = .ok (.istore_n 2, 1) := by decide +kernel
theorem dX12_composes_141 : decode cX12_composes 141 = .ok (.iload_n 2, 1) := by decide +kernel
theorem dX12_composes_142 : decode cX12_composes 142 = .ok (.iload_n 1, 1) := by decide +kernel
theorem dX12_composes_143 : decode cX12_composes 143 = .ok (.if_icmp .ge 103, 3) := by decide +kernel
theorem dX12_composes_146 : decode cX12_composes 146 = .ok (.iconst 0, 1) := by decide +kernel
theorem dX12_composes_147 : decode cX12_composes 147 = .ok (.istore_n 3, 1) := by decide +kernel
theorem dX12_composes_148 : decode cX12_composes 148 = .ok (.iload_n 3, 1) := by decide +kernel
theorem dX12_composes_149 : decode cX12_composes 149 = .ok (.iload_n 1, 1) := by decide +kernel
theorem dX12_composes_150 : decode cX12_composes 150 = .ok (.if_icmp .ge 90, 3) := by decide +kernel
theorem dX12_composes_153 : decode cX12_composes 153 = .ok (.aload_n 0, 1) := by decide +kernel
theorem dX12_composes_154 : decode cX12_composes 154 = .ok (.getfield 148, 3) := by decide +kernel
theorem dX12_composes_157 : decode cX12_composes 157 = .ok (.bipush 11, 2) := by decide +kernel
theorem dX12_composes_159 : decode cX12_composes 159 = .ok (.iload_n 2, 1) := by decide +kernel
theorem dX12_composes_160 : decode cX12_composes 160 = .ok (.imul, 1) := by decide +kernel
theorem dX12_composes_161 : decode cX12_composes 161 = .ok (.iload_n 3, 1) := by decide +kernel
theorem dX12_composes_162 : decode cX12_composes 162 = .ok (.iadd, 1) := by decide +kernel
theorem dX12_composes_163 : decode cX12_composes 163 = .ok (.iconst 1, 1) := by decide +kernel
theorem dX12_composes_164 : decode cX12_composes 164 = .ok (.iadd, 1) := by decide +kernel
theorem dX12_composes_165 : decode cX12_composes 165 = .ok (.iaload, 1) := by decide +kernel
theorem dX12_composes_166 : decode cX12_composes 166 = .ok (.aload_n 0, 1) := by decide +kernel
theorem dX12_composes_167 : decode cX12_composes 167 = .ok (.getfield 148, 3) := by decide +kernel
theorem dX12_composes_170 : decode cX12_composes 170 = .ok (.bipush 11, 2) := by decide +kernel
theorem dX12_composes_172 : decode cX12_composes 172 = .ok (.iload_n 2, 1) := by decide +kernel
theorem dX12_composes_173 : decode cX12_composes 173 = .ok (.imul, 1) := by decide +kernel
theorem dX12_composes_174 : decode cX12_composes 174 = .ok (.bipush 11, 2) := by decide +kernel
theorem dX12_composes_176 : decode cX12_composes 176 = .ok (.iadd, 1) := by decide +kernel
theorem dX12_composes_177 : decode cX12_composes 177 = .ok (.iload_n 3, 1) := by decide +kernel
theorem dX12_composes_178 : decode cX12_composes 178 = .ok (.iadd, 1) := by decide +kernel
theorem dX12_composes_179 : decode cX12_composes 179 = .ok (.iconst 1, 1) := by decide +kernel
theorem dX12_composes_180 : decode cX12_composes 180 = .ok (.iadd, 1) := by decide +kernel
theorem dX12_composes_181 : decode cX12_composes 181 = .ok (.iaload, 1) := by decide +kernel
theorem dX12_composes_182 : decode cX12_composes 182 = .ok (.isub, 1) := by decide +kernel
theorem dX12_composes_183 : decode cX12_composes 183 = .ok (.aload_n 0, 1) := by decide +kernel
theorem dX12_composes_184 : decode cX12_composes 184 = .ok (.getfield 148, 3) := by decide +kernel
theorem dX12_composes_187 : decode cX12_composes 187 = .ok (.bipush 11, 2) := by decide +kernel
theorem dX12_composes_189 : decode cX12_composes 189 = .ok (.iload_n 2, 1) := by decide +kernel
theorem dX12_composes_190 : decode cX12_composes 190 = .ok (.imul, 1) := by decide +kernel
theorem dX12_composes_191 : decode cX12_composes 191 = .ok (.iload_n 3, 1) := by decide +kernel
theorem dX12_composes_192 : decode cX12_composes 192 = .ok (.iadd, 1) := by decide +kernel
theorem dX12_composes_193 : decode cX12_composes 193 = .ok (.iaload, 1) := by decide +kernel
theorem dX12_composes_194 : decode cX12_composes 194 = .ok (.isub, 1) := by decide +kernel
theorem dX12_composes_195 : decode cX12_composes 195 = .ok (.aload_n 0, 1) := by decide +kernel
theorem dX12_composes_196 : decode cX12_composes 196 = .ok (.getfield 148, 3) := by decide +kernel
theorem dX12_composes_199 : decode cX12_composes 199 = .ok (.bipush 11, 2) := by decide +kernel
theorem dX12_composes_201 : decode cX12_composes 201 = .ok (.iload_n 2, 1) := by decide +kernel
theorem dX12_composes_202 : decode cX12_composes 202 = .ok (.imul, 1) := by decide +kernel
theorem dX12_composes_203 : decode cX12_composes 203 = .ok (.bipush 11, 2) := by decide +kernel
theorem dX12_composes_205 : decode cX12_composes 205 = .ok (.iadd, 1) := by decide +kernel
theorem dX12_composes_206 : decode cX12_composes 206 = .ok (.iload_n 3, 1) := by decide +kernel
theorem dX12_composes_207 : decode cX12_composes 207 = .ok (.iadd, 1) := by decide +kernel
theorem dX12_composes_208 : decode cX12_composes 208 = .ok (.iaload, 1) := by decide +kernel
theorem dX12_composes_209 : decode cX12_composes 209 = .ok (.iadd, 1) := by decide +kernel
theorem dX12_composes_210 : decode cX12_composes 210 = .ok (.istore 4, 2) := by decide +kernel
theorem dX12_composes_212 : decode cX12_composes 212 = .ok (.aload_n 0, 1) := by decide +kernel
theorem dX12_composes_213 : decode cX12_composes 213 = .ok (.getfield 139, 3) := by decide +kernel
theorem dX12_composes_216 : decode cX12_composes 216 = .ok (.iload_n 2, 1) := by decide +kernel
theorem dX12_composes_217 : decode cX12_composes 217 = .ok (.iload 4, 2) := by decide +kernel
theorem dX12_composes_219 : decode cX12_composes 219 = .ok (.iconst 1, 1) := by decide +kernel
theorem dX12_composes_220 : decode cX12_composes 220 = .ok (.if_icmp .ne 7, 3) := by decide +kernel
theorem dX12_composes_223 : decode cX12_composes 223 = .ok (.iload_n 3, 1) := by decide +kernel
theorem dX12_composes_224 : decode cX12_composes 224 = .ok (.goto 9, 3) := by decide +kernel
theorem dX12_composes_227 : decode cX12_composes 227 = .ok (.aload_n 0, 1) := by decide +kernel
theorem dX12_composes_228 : decode cX12_composes 228 = .ok (.getfield 139, 3) := by decide +kernel
theorem dX12_composes_231 : decode cX12_composes 231 = .ok (.iload_n 2, 1) := by decide +kernel
theorem dX12_composes_232 : decode cX12_composes 232 = .ok (.iaload, 1) := by decide +kernel
theorem dX12_composes_233 : decode cX12_composes 233 = .ok (.iastore, 1) := by decide +kernel
theorem dX12_composes_234 : decode cX12_composes 234 = .ok (.iinc 3 1, 3) := by decide +kernel
theorem dX12_composes_237 : decode cX12_composes 237 = .ok (.goto (-89), 3) := by decide +kernel
theorem dX12_composes_240 : decode cX12_composes 240 = .ok (.iinc 2 1, 3) := by decide +kernel
theorem dX12_composes_243 : decode cX12_composes 243 = .ok (.goto (-102), 3) := by decide +kernel
theorem dX12_composes_246 : decode cX12_composes 246 = .ok (.return_, 1) := by decide +kernel
theorem dX12_crossingsOf_0 : decode cX12_crossingsOf 0 = .ok (.iconst 0, 1) := by decide +kernel
theorem dX12_crossingsOf_1 : decode cX12_crossingsOf 1 = .ok (.istore_n 2, 1) := by decide +kernel
theorem dX12_crossingsOf_2 : decode cX12_crossingsOf 2 = .ok (.iconst 0, 1) := by decide +kernel
theorem dX12_crossingsOf_3 : decode cX12_crossingsOf 3 = .ok (.istore_n 3, 1) := by decide +kernel
theorem dX12_crossingsOf_4 : decode cX12_crossingsOf 4 = .ok (.iload_n 3, 1) := by decide +kernel
theorem dX12_crossingsOf_5 : decode cX12_crossingsOf 5 = .ok (.aload_n 0, 1) := by decide +kernel
theorem dX12_crossingsOf_6 : decode cX12_crossingsOf 6 = .ok (.iload_n 1, 1) := by decide +kernel
theorem dX12_crossingsOf_7 : decode cX12_crossingsOf 7 = .ok (.invokevirtual 375, 3) := by decide +kernel
theorem dX12_crossingsOf_10 : decode cX12_crossingsOf 10 = .ok (.if_icmp .ge 48, 3) := by decide +kernel
theorem dX12_crossingsOf_13 : decode cX12_crossingsOf 13 = .ok (.iconst 0, 1) := by decide +kernel
theorem dX12_crossingsOf_14 : decode cX12_crossingsOf 14 = .ok (.istore 4, 2) := by decide +kernel
theorem dX12_crossingsOf_16 : decode cX12_crossingsOf 16 = .ok (.iload 4, 2) := by decide +kernel
theorem dX12_crossingsOf_18 : decode cX12_crossingsOf 18 = .ok (.iload_n 3, 1) := by decide +kernel
theorem dX12_crossingsOf_19 : decode cX12_crossingsOf 19 = .ok (.if_icmp .ge 33, 3) := by decide +kernel
theorem dX12_crossingsOf_22 : decode cX12_crossingsOf 22 = .ok (.iload_n 2, 1) := by decide +kernel
theorem dX12_crossingsOf_23 : decode cX12_crossingsOf 23 = .ok (.aload_n 0, 1) := by decide +kernel
theorem dX12_crossingsOf_24 : decode cX12_crossingsOf 24 = .ok (.iload_n 1, 1) := by decide +kernel
theorem dX12_crossingsOf_25 : decode cX12_crossingsOf 25 = .ok (.iload_n 3, 1) := by decide +kernel
theorem dX12_crossingsOf_26 : decode cX12_crossingsOf 26 = .ok (.invokevirtual 378, 3) := by decide +kernel
theorem dX12_crossingsOf_29 : decode cX12_crossingsOf 29 = .ok (.aload_n 0, 1) := by decide +kernel
theorem dX12_crossingsOf_30 : decode cX12_crossingsOf 30 = .ok (.iload_n 1, 1) := by decide +kernel
theorem dX12_crossingsOf_31 : decode cX12_crossingsOf 31 = .ok (.iload 4, 2) := by decide +kernel
theorem dX12_crossingsOf_33 : decode cX12_crossingsOf 33 = .ok (.invokevirtual 378, 3) := by decide +kernel
theorem dX12_crossingsOf_36 : decode cX12_crossingsOf 36 = .ok (.if_icmp .ge 7, 3) := by decide +kernel
theorem dX12_crossingsOf_39 : decode cX12_crossingsOf 39 = .ok (.iconst 1, 1) := by decide +kernel
theorem dX12_crossingsOf_40 : decode cX12_crossingsOf 40 = .ok (.goto 4, 3) := by decide +kernel
theorem dX12_crossingsOf_43 : decode cX12_crossingsOf 43 = .ok (.iconst 0, 1) := by decide +kernel
theorem dX12_crossingsOf_44 : decode cX12_crossingsOf 44 = .ok (.iadd, 1) := by decide +kernel
theorem dX12_crossingsOf_45 : decode cX12_crossingsOf 45 = .ok (.istore_n 2, 1) := by decide +kernel
theorem dX12_crossingsOf_46 : decode cX12_crossingsOf 46 = .ok (.iinc 4 1, 3) := by decide +kernel
theorem dX12_crossingsOf_49 : decode cX12_crossingsOf 49 = .ok (.goto (-33), 3) := by decide +kernel
theorem dX12_crossingsOf_52 : decode cX12_crossingsOf 52 = .ok (.iinc 3 1, 3) := by decide +kernel
theorem dX12_crossingsOf_55 : decode cX12_crossingsOf 55 = .ok (.goto (-51), 3) := by decide +kernel
theorem dX12_crossingsOf_58 : decode cX12_crossingsOf 58 = .ok (.iload_n 2, 1) := by decide +kernel
theorem dX12_crossingsOf_59 : decode cX12_crossingsOf 59 = .ok (.ireturn, 1) := by decide +kernel
theorem dX12_braid_0 : decode cX12_braid 0 = .ok (.aload_n 0, 1) := by decide +kernel
theorem dX12_braid_1 : decode cX12_braid 1 = .ok (.iconst 0, 1) := by decide +kernel
theorem dX12_braid_2 : decode cX12_braid 2 = .ok (.putfield 1, 3) := by decide +kernel
theorem dX12_braid_5 : decode cX12_braid 5 = .ok (.aload_n 0, 1) := by decide +kernel
theorem dX12_braid_6 : decode cX12_braid 6 = .ok (.iload_n 1, 1) := by decide +kernel
theorem dX12_braid_7 : decode cX12_braid 7 = .ok (.invokevirtual 381, 3) := by decide +kernel
theorem dX12_braid_10 : decode cX12_braid 10 = .ok (.ifCond .eq 12, 3) := by decide +kernel
theorem dX12_braid_13 : decode cX12_braid 13 = .ok (.iload_n 2, 1) := by decide +kernel
theorem dX12_braid_14 : decode cX12_braid 14 = .ok (.iconst 0, 1) := by decide +kernel
theorem dX12_braid_15 : decode cX12_braid 15 = .ok (.iconst 2, 1) := by decide +kernel
theorem dX12_braid_16 : decode cX12_braid 16 = .ok (.invokestatic 358, 3) := by decide +kernel
theorem dX12_braid_19 : decode cX12_braid 19 = .ok (.ifCond .ne 5, 3) := by decide +kernel
theorem dX12_braid_22 : decode cX12_braid 22 = .ok (.iconst (-1), 1) := by decide +kernel
theorem dX12_braid_23 : decode cX12_braid 23 = .ok (.ireturn, 1) := by decide +kernel
theorem dX12_braid_24 : decode cX12_braid 24 = .ok (.iload_n 2, 1) := by decide +kernel
theorem dX12_braid_25 : decode cX12_braid 25 = .ok (.ifCond .ne 11, 3) := by decide +kernel
theorem dX12_braid_28 : decode cX12_braid 28 = .ok (.aload_n 0, 1) := by decide +kernel
theorem dX12_braid_29 : decode cX12_braid 29 = .ok (.iload_n 1, 1) := by decide +kernel
theorem dX12_braid_30 : decode cX12_braid 30 = .ok (.invokevirtual 375, 3) := by decide +kernel
theorem dX12_braid_33 : decode cX12_braid 33 = .ok (.goto 25, 3) := by decide +kernel
theorem dX12_braid_36 : decode cX12_braid 36 = .ok (.iload_n 2, 1) := by decide +kernel
theorem dX12_braid_37 : decode cX12_braid 37 = .ok (.iconst 1, 1) := by decide +kernel
theorem dX12_braid_38 : decode cX12_braid 38 = .ok (.if_icmp .ne 11, 3) := by decide +kernel
theorem dX12_braid_41 : decode cX12_braid 41 = .ok (.aload_n 0, 1) := by decide +kernel
theorem dX12_braid_42 : decode cX12_braid 42 = .ok (.iload_n 1, 1) := by decide +kernel
theorem dX12_braid_43 : decode cX12_braid 43 = .ok (.invokevirtual 384, 3) := by decide +kernel
theorem dX12_braid_46 : decode cX12_braid 46 = .ok (.goto 12, 3) := by decide +kernel
theorem dX12_braid_49 : decode cX12_braid 49 = .ok (.aload_n 0, 1) := by decide +kernel
theorem dX12_braid_50 : decode cX12_braid 50 = .ok (.getfield 93, 3) := by decide +kernel
theorem dX12_braid_53 : decode cX12_braid 53 = .ok (.bipush 93, 2) := by decide +kernel
theorem dX12_braid_55 : decode cX12_braid 55 = .ok (.iload_n 1, 1) := by decide +kernel
theorem dX12_braid_56 : decode cX12_braid 56 = .ok (.iadd, 1) := by decide +kernel
theorem dX12_braid_57 : decode cX12_braid 57 = .ok (.iaload, 1) := by decide +kernel
theorem dX12_braid_58 : decode cX12_braid 58 = .ok (.ireturn, 1) := by decide +kernel
theorem dX12_ends_0 : decode cX12_ends 0 = .ok (.aload_n 0, 1) := by decide +kernel
theorem dX12_ends_1 : decode cX12_ends 1 = .ok (.iconst 0, 1) := by decide +kernel
theorem dX12_ends_2 : decode cX12_ends 2 = .ok (.putfield 1, 3) := by decide +kernel
theorem dX12_ends_5 : decode cX12_ends 5 = .ok (.aload_n 0, 1) := by decide +kernel
theorem dX12_ends_6 : decode cX12_ends 6 = .ok (.iload_n 1, 1) := by decide +kernel
theorem dX12_ends_7 : decode cX12_ends 7 = .ok (.invokevirtual 381, 3) := by decide +kernel
theorem dX12_ends_10 : decode cX12_ends 10 = .ok (.ifCond .eq 27, 3) := by decide +kernel
theorem dX12_ends_13 : decode cX12_ends 13 = .ok (.iload_n 2, 1) := by decide +kernel
theorem dX12_ends_14 : decode cX12_ends 14 = .ok (.iconst 0, 1) := by decide +kernel
theorem dX12_ends_15 : decode cX12_ends 15 = .ok (.aload_n 0, 1) := by decide +kernel
theorem dX12_ends_16 : decode cX12_ends 16 = .ok (.iload_n 1, 1) := by decide +kernel
theorem dX12_ends_17 : decode cX12_ends 17 = .ok (.invokevirtual 375, 3) := by decide +kernel
theorem dX12_ends_20 : decode cX12_ends 20 = .ok (.iconst 1, 1) := by decide +kernel
theorem dX12_ends_21 : decode cX12_ends 21 = .ok (.isub, 1) := by decide +kernel
theorem dX12_ends_22 : decode cX12_ends 22 = .ok (.invokestatic 358, 3) := by decide +kernel
theorem dX12_ends_25 : decode cX12_ends 25 = .ok (.ifCond .eq 12, 3) := by decide +kernel
theorem dX12_ends_28 : decode cX12_ends 28 = .ok (.aload_n 0, 1) := by decide +kernel
theorem dX12_ends_29 : decode cX12_ends 29 = .ok (.iload_n 1, 1) := by decide +kernel
theorem dX12_ends_30 : decode cX12_ends 30 = .ok (.iload_n 2, 1) := by decide +kernel
theorem dX12_ends_31 : decode cX12_ends 31 = .ok (.invokevirtual 378, 3) := by decide +kernel
theorem dX12_ends_34 : decode cX12_ends 34 = .ok (.goto 4, 3) := by decide +kernel
theorem dX12_ends_37 : decode cX12_ends 37 = .ok (.iconst (-1), 1) := by decide +kernel
theorem dX12_ends_38 : decode cX12_ends 38 = .ok (.ireturn, 1) := by decide +kernel
theorem dX12_counts_0 : decode cX12_counts 0 = .ok (.aload_n 0, 1) := by decide +kernel
theorem dX12_counts_1 : decode cX12_counts 1 = .ok (.iconst 0, 1) := by decide +kernel
theorem dX12_counts_2 : decode cX12_counts 2 = .ok (.putfield 1, 3) := by decide +kernel
theorem dX12_counts_5 : decode cX12_counts 5 = .ok (.aload_n 0, 1) := by decide +kernel
theorem dX12_counts_6 : decode cX12_counts 6 = .ok (.iload_n 1, 1) := by decide +kernel
theorem dX12_counts_7 : decode cX12_counts 7 = .ok (.invokevirtual 381, 3) := by decide +kernel
theorem dX12_counts_10 : decode cX12_counts 10 = .ok (.ifCond .eq 29, 3) := by decide +kernel
theorem dX12_counts_13 : decode cX12_counts 13 = .ok (.iload_n 2, 1) := by decide +kernel
theorem dX12_counts_14 : decode cX12_counts 14 = .ok (.iconst 0, 1) := by decide +kernel
theorem dX12_counts_15 : decode cX12_counts 15 = .ok (.aload_n 0, 1) := by decide +kernel
theorem dX12_counts_16 : decode cX12_counts 16 = .ok (.iload_n 1, 1) := by decide +kernel
theorem dX12_counts_17 : decode cX12_counts 17 = .ok (.invokevirtual 375, 3) := by decide +kernel
theorem dX12_counts_20 : decode cX12_counts 20 = .ok (.invokestatic 358, 3) := by decide +kernel
theorem dX12_counts_23 : decode cX12_counts 23 = .ok (.ifCond .eq 16, 3) := by decide +kernel
theorem dX12_counts_26 : decode cX12_counts 26 = .ok (.iload_n 3, 1) := by decide +kernel
theorem dX12_counts_27 : decode cX12_counts 27 = .ok (.iconst 0, 1) := by decide +kernel
theorem dX12_counts_28 : decode cX12_counts 28 = .ok (.aload_n 0, 1) := by decide +kernel
theorem dX12_counts_29 : decode cX12_counts 29 = .ok (.iload_n 1, 1) := by decide +kernel
theorem dX12_counts_30 : decode cX12_counts 30 = .ok (.invokevirtual 375, 3) := by decide +kernel
theorem dX12_counts_33 : decode cX12_counts 33 = .ok (.invokestatic 358, 3) := by decide +kernel
theorem dX12_counts_36 : decode cX12_counts 36 = .ok (.ifCond .ne 5, 3) := by decide +kernel
theorem dX12_counts_39 : decode cX12_counts 39 = .ok (.iconst (-1), 1) := by decide +kernel
theorem dX12_counts_40 : decode cX12_counts 40 = .ok (.ireturn, 1) := by decide +kernel
theorem dX12_counts_41 : decode cX12_counts 41 = .ok (.aload_n 0, 1) := by decide +kernel
theorem dX12_counts_42 : decode cX12_counts 42 = .ok (.iconst 0, 1) := by decide +kernel
theorem dX12_counts_43 : decode cX12_counts 43 = .ok (.iload_n 1, 1) := by decide +kernel
theorem dX12_counts_44 : decode cX12_counts 44 = .ok (.aload_n 0, 1) := by decide +kernel
theorem dX12_counts_45 : decode cX12_counts 45 = .ok (.getfield 133, 3) := by decide +kernel
theorem dX12_counts_48 : decode cX12_counts 48 = .ok (.invokevirtual 387, 3) := by decide +kernel
theorem dX12_counts_51 : decode cX12_counts 51 = .ok (.aload_n 0, 1) := by decide +kernel
theorem dX12_counts_52 : decode cX12_counts 52 = .ok (.getfield 133, 3) := by decide +kernel
theorem dX12_counts_55 : decode cX12_counts 55 = .ok (.aload_n 0, 1) := by decide +kernel
theorem dX12_counts_56 : decode cX12_counts 56 = .ok (.iload_n 1, 1) := by decide +kernel
theorem dX12_counts_57 : decode cX12_counts 57 = .ok (.invokevirtual 375, 3) := by decide +kernel
theorem dX12_counts_60 : decode cX12_counts 60 = .ok (.iload_n 2, 1) := by decide +kernel
theorem dX12_counts_61 : decode cX12_counts 61 = .ok (.iload_n 3, 1) := by decide +kernel
theorem dX12_counts_62 : decode cX12_counts 62 = .ok (.invokestatic 367, 3) := by decide +kernel
theorem dX12_counts_65 : decode cX12_counts 65 = .ok (.ireturn, 1) := by decide +kernel
theorem dX12_areAlike_0 : decode cX12_areAlike 0 = .ok (.aload_n 0, 1) := by decide +kernel
theorem dX12_areAlike_1 : decode cX12_areAlike 1 = .ok (.getfield 93, 3) := by decide +kernel
theorem dX12_areAlike_4 : decode cX12_areAlike 4 = .ok (.iload_n 1, 1) := by decide +kernel
theorem dX12_areAlike_5 : decode cX12_areAlike 5 = .ok (.bipush 85, 2) := by decide +kernel
theorem dX12_areAlike_7 : decode cX12_areAlike 7 = .ok (.iadd, 1) := by decide +kernel
theorem dX12_areAlike_8 : decode cX12_areAlike 8 = .ok (.iload_n 2, 1) := by decide +kernel
theorem dX12_areAlike_9 : decode cX12_areAlike 9 = .ok (.iadd, 1) := by decide +kernel
theorem dX12_areAlike_10 : decode cX12_areAlike 10 = .ok (.iaload, 1) := by decide +kernel
theorem dX12_areAlike_11 : decode cX12_areAlike 11 = .ok (.aload_n 0, 1) := by decide +kernel
theorem dX12_areAlike_12 : decode cX12_areAlike 12 = .ok (.getfield 93, 3) := by decide +kernel
theorem dX12_areAlike_15 : decode cX12_areAlike 15 = .ok (.iload_n 1, 1) := by decide +kernel
theorem dX12_areAlike_16 : decode cX12_areAlike 16 = .ok (.bipush 85, 2) := by decide +kernel
theorem dX12_areAlike_18 : decode cX12_areAlike 18 = .ok (.iadd, 1) := by decide +kernel
theorem dX12_areAlike_19 : decode cX12_areAlike 19 = .ok (.iload_n 3, 1) := by decide +kernel
theorem dX12_areAlike_20 : decode cX12_areAlike 20 = .ok (.iadd, 1) := by decide +kernel
theorem dX12_areAlike_21 : decode cX12_areAlike 21 = .ok (.iaload, 1) := by decide +kernel
theorem dX12_areAlike_22 : decode cX12_areAlike 22 = .ok (.if_icmp .ne 7, 3) := by decide +kernel
theorem dX12_areAlike_25 : decode cX12_areAlike 25 = .ok (.iconst 1, 1) := by decide +kernel
theorem dX12_areAlike_26 : decode cX12_areAlike 26 = .ok (.goto 4, 3) := by decide +kernel
theorem dX12_areAlike_29 : decode cX12_areAlike 29 = .ok (.iconst 0, 1) := by decide +kernel
theorem dX12_areAlike_30 : decode cX12_areAlike 30 = .ok (.ireturn, 1) := by decide +kernel
theorem dX12_compose_0 : decode cX12_compose 0 = .ok (.aload_n 0, 1) := by decide +kernel
theorem dX12_compose_1 : decode cX12_compose 1 = .ok (.iconst 0, 1) := by decide +kernel
theorem dX12_compose_2 : decode cX12_compose 2 = .ok (.putfield 1, 3) := by decide +kernel
theorem dX12_compose_5 : decode cX12_compose 5 = .ok (.aload_n 0, 1) := by decide +kernel
theorem dX12_compose_6 : decode cX12_compose 6 = .ok (.iload_n 1, 1) := by decide +kernel
theorem dX12_compose_7 : decode cX12_compose 7 = .ok (.invokevirtual 381, 3) := by decide +kernel
theorem dX12_compose_10 : decode cX12_compose 10 = .ok (.ifCond .eq 36, 3) := by decide +kernel
theorem dX12_compose_13 : decode cX12_compose 13 = .ok (.aload_n 0, 1) := by decide +kernel
theorem dX12_compose_14 : decode cX12_compose 14 = .ok (.iload_n 2, 1) := by decide +kernel
theorem dX12_compose_15 : decode cX12_compose 15 = .ok (.invokevirtual 381, 3) := by decide +kernel
theorem dX12_compose_18 : decode cX12_compose 18 = .ok (.ifCond .eq 28, 3) := by decide +kernel
theorem dX12_compose_21 : decode cX12_compose 21 = .ok (.aload_n 0, 1) := by decide +kernel
theorem dX12_compose_22 : decode cX12_compose 22 = .ok (.iconst 0, 1) := by decide +kernel
theorem dX12_compose_23 : decode cX12_compose 23 = .ok (.iload_n 1, 1) := by decide +kernel
theorem dX12_compose_24 : decode cX12_compose 24 = .ok (.iload_n 2, 1) := by decide +kernel
theorem dX12_compose_25 : decode cX12_compose 25 = .ok (.invokevirtual 391, 3) := by decide +kernel
theorem dX12_compose_28 : decode cX12_compose 28 = .ok (.ifCond .eq 18, 3) := by decide +kernel
theorem dX12_compose_31 : decode cX12_compose 31 = .ok (.iload_n 3, 1) := by decide +kernel
theorem dX12_compose_32 : decode cX12_compose 32 = .ok (.iconst 0, 1) := by decide +kernel
theorem dX12_compose_33 : decode cX12_compose 33 = .ok (.aload_n 0, 1) := by decide +kernel
theorem dX12_compose_34 : decode cX12_compose 34 = .ok (.iload_n 1, 1) := by decide +kernel
theorem dX12_compose_35 : decode cX12_compose 35 = .ok (.invokevirtual 375, 3) := by decide +kernel
theorem dX12_compose_38 : decode cX12_compose 38 = .ok (.iconst 1, 1) := by decide +kernel
theorem dX12_compose_39 : decode cX12_compose 39 = .ok (.isub, 1) := by decide +kernel
theorem dX12_compose_40 : decode cX12_compose 40 = .ok (.invokestatic 358, 3) := by decide +kernel
theorem dX12_compose_43 : decode cX12_compose 43 = .ok (.ifCond .ne 5, 3) := by decide +kernel
theorem dX12_compose_46 : decode cX12_compose 46 = .ok (.iconst (-1), 1) := by decide +kernel
theorem dX12_compose_47 : decode cX12_compose 47 = .ok (.ireturn, 1) := by decide +kernel
theorem dX12_compose_48 : decode cX12_compose 48 = .ok (.aload_n 0, 1) := by decide +kernel
theorem dX12_compose_49 : decode cX12_compose 49 = .ok (.iconst 0, 1) := by decide +kernel
theorem dX12_compose_50 : decode cX12_compose 50 = .ok (.iload_n 1, 1) := by decide +kernel
theorem dX12_compose_51 : decode cX12_compose 51 = .ok (.aload_n 0, 1) := by decide +kernel
theorem dX12_compose_52 : decode cX12_compose 52 = .ok (.getfield 133, 3) := by decide +kernel
theorem dX12_compose_55 : decode cX12_compose 55 = .ok (.invokevirtual 387, 3) := by decide +kernel
theorem dX12_compose_58 : decode cX12_compose 58 = .ok (.aload_n 0, 1) := by decide +kernel
theorem dX12_compose_59 : decode cX12_compose 59 = .ok (.iconst 0, 1) := by decide +kernel
theorem dX12_compose_60 : decode cX12_compose 60 = .ok (.iload_n 2, 1) := by decide +kernel
theorem dX12_compose_61 : decode cX12_compose 61 = .ok (.aload_n 0, 1) := by decide +kernel
theorem dX12_compose_62 : decode cX12_compose 62 = .ok (.getfield 136, 3) := by decide +kernel
theorem dX12_compose_65 : decode cX12_compose 65 = .ok (.invokevirtual 387, 3) := by decide +kernel
theorem dX12_compose_68 : decode cX12_compose 68 = .ok (.aload_n 0, 1) := by decide +kernel
theorem dX12_compose_69 : decode cX12_compose 69 = .ok (.aload_n 0, 1) := by decide +kernel
theorem dX12_compose_70 : decode cX12_compose 70 = .ok (.iload_n 1, 1) := by decide +kernel
theorem dX12_compose_71 : decode cX12_compose 71 = .ok (.invokevirtual 375, 3) := by decide +kernel
theorem dX12_compose_74 : decode cX12_compose 74 = .ok (.invokevirtual 394, 3) := by decide +kernel
theorem dX12_compose_77 : decode cX12_compose 77 = .ok (.aload_n 0, 1) := by decide +kernel
theorem dX12_compose_78 : decode cX12_compose 78 = .ok (.getfield 139, 3) := by decide +kernel
theorem dX12_compose_81 : decode cX12_compose 81 = .ok (.iload_n 3, 1) := by decide +kernel
theorem dX12_compose_82 : decode cX12_compose 82 = .ok (.iaload, 1) := by decide +kernel
theorem dX12_compose_83 : decode cX12_compose 83 = .ok (.ireturn, 1) := by decide +kernel
theorem dX12_powers_0 : decode cX12_powers 0 = .ok (.aload_n 0, 1) := by decide +kernel
theorem dX12_powers_1 : decode cX12_powers 1 = .ok (.iconst 0, 1) := by decide +kernel
theorem dX12_powers_2 : decode cX12_powers 2 = .ok (.iload_n 1, 1) := by decide +kernel
theorem dX12_powers_3 : decode cX12_powers 3 = .ok (.aload_n 0, 1) := by decide +kernel
theorem dX12_powers_4 : decode cX12_powers 4 = .ok (.getfield 133, 3) := by decide +kernel
theorem dX12_powers_7 : decode cX12_powers 7 = .ok (.invokevirtual 387, 3) := by decide +kernel
theorem dX12_powers_10 : decode cX12_powers 10 = .ok (.aload_n 0, 1) := by decide +kernel
theorem dX12_powers_11 : decode cX12_powers 11 = .ok (.iconst 0, 1) := by decide +kernel
theorem dX12_powers_12 : decode cX12_powers 12 = .ok (.iload_n 1, 1) := by decide +kernel
theorem dX12_powers_13 : decode cX12_powers 13 = .ok (.aload_n 0, 1) := by decide +kernel
theorem dX12_powers_14 : decode cX12_powers 14 = .ok (.getfield 136, 3) := by decide +kernel
theorem dX12_powers_17 : decode cX12_powers 17 = .ok (.invokevirtual 387, 3) := by decide +kernel
theorem dX12_powers_20 : decode cX12_powers 20 = .ok (.iconst 1, 1) := by decide +kernel
theorem dX12_powers_21 : decode cX12_powers 21 = .ok (.istore_n 3, 1) := by decide +kernel
theorem dX12_powers_22 : decode cX12_powers 22 = .ok (.iconst 1, 1) := by decide +kernel
theorem dX12_powers_23 : decode cX12_powers 23 = .ok (.istore 4, 2) := by decide +kernel
theorem dX12_powers_25 : decode cX12_powers 25 = .ok (.iload 4, 2) := by decide +kernel
theorem dX12_powers_27 : decode cX12_powers 27 = .ok (.iload_n 2, 1) := by decide +kernel
theorem dX12_powers_28 : decode cX12_powers 28 = .ok (.if_icmp .ge 80, 3) := by decide +kernel
theorem dX12_powers_31 : decode cX12_powers 31 = .ok (.aload_n 0, 1) := by decide +kernel
theorem dX12_powers_32 : decode cX12_powers 32 = .ok (.aload_n 0, 1) := by decide +kernel
theorem dX12_powers_33 : decode cX12_powers 33 = .ok (.iload_n 1, 1) := by decide +kernel
theorem dX12_powers_34 : decode cX12_powers 34 = .ok (.invokevirtual 375, 3) := by decide +kernel
theorem dX12_powers_37 : decode cX12_powers 37 = .ok (.invokevirtual 394, 3) := by decide +kernel
theorem dX12_powers_40 : decode cX12_powers 40 = .ok (.iconst 0, 1) := by decide +kernel
theorem dX12_powers_41 : decode cX12_powers 41 = .ok (.istore_n 3, 1) := by decide +kernel
theorem dX12_powers_42 : decode cX12_powers 42 = .ok (.iconst 0, 1) := by decide +kernel
theorem dX12_powers_43 : decode cX12_powers 43 = .ok (.istore 5, 2) := by decide +kernel
theorem dX12_powers_45 : decode cX12_powers 45 = .ok (.iload 5, 2) := by decide +kernel
theorem dX12_powers_47 : decode cX12_powers 47 = .ok (.aload_n 0, 1) := by decide +kernel
theorem dX12_powers_48 : decode cX12_powers 48 = .ok (.iload_n 1, 1) := by decide +kernel
theorem dX12_powers_49 : decode cX12_powers 49 = .ok (.invokevirtual 375, 3) := by decide +kernel
theorem dX12_powers_52 : decode cX12_powers 52 = .ok (.if_icmp .ge 50, 3) := by decide +kernel
theorem dX12_powers_55 : decode cX12_powers 55 = .ok (.iload_n 3, 1) := by decide +kernel
theorem dX12_powers_56 : decode cX12_powers 56 = .ok (.ifCond .ne 20, 3) := by decide +kernel
theorem dX12_powers_59 : decode cX12_powers 59 = .ok (.aload_n 0, 1) := by decide +kernel
theorem dX12_powers_60 : decode cX12_powers 60 = .ok (.getfield 133, 3) := by decide +kernel
theorem dX12_powers_63 : decode cX12_powers 63 = .ok (.iload 5, 2) := by decide +kernel
theorem dX12_powers_65 : decode cX12_powers 65 = .ok (.iaload, 1) := by decide +kernel
theorem dX12_powers_66 : decode cX12_powers 66 = .ok (.aload_n 0, 1) := by decide +kernel
theorem dX12_powers_67 : decode cX12_powers 67 = .ok (.getfield 139, 3) := by decide +kernel
theorem dX12_powers_70 : decode cX12_powers 70 = .ok (.iload 5, 2) := by decide +kernel
theorem dX12_powers_72 : decode cX12_powers 72 = .ok (.iaload, 1) := by decide +kernel
theorem dX12_powers_73 : decode cX12_powers 73 = .ok (.if_icmp .eq 7, 3) := by decide +kernel
theorem dX12_powers_76 : decode cX12_powers 76 = .ok (.iconst 1, 1) := by decide +kernel
theorem dX12_powers_77 : decode cX12_powers 77 = .ok (.goto 4, 3) := by decide +kernel
theorem dX12_powers_80 : decode cX12_powers 80 = .ok (.iconst 0, 1) := by decide +kernel
theorem dX12_powers_81 : decode cX12_powers 81 = .ok (.istore_n 3, 1) := by decide +kernel
theorem dX12_powers_82 : decode cX12_powers 82 = .ok (.aload_n 0, 1) := by decide +kernel
theorem dX12_powers_83 : decode cX12_powers 83 = .ok (.getfield 133, 3) := by decide +kernel
theorem dX12_powers_86 : decode cX12_powers 86 = .ok (.iload 5, 2) := by decide +kernel
theorem dX12_powers_88 : decode cX12_powers 88 = .ok (.aload_n 0, 1) := by decide +kernel
theorem dX12_powers_89 : decode cX12_powers 89 = .ok (.getfield 139, 3) := by decide +kernel
theorem dX12_powers_92 : decode cX12_powers 92 = .ok (.iload 5, 2) := by decide +kernel
theorem dX12_powers_94 : decode cX12_powers 94 = .ok (.iaload, 1) := by decide +kernel
theorem dX12_powers_95 : decode cX12_powers 95 = .ok (.iastore, 1) := by decide +kernel
theorem dX12_powers_96 : decode cX12_powers 96 = .ok (.iinc 5 1, 3) := by decide +kernel
theorem dX12_powers_99 : decode cX12_powers 99 = .ok (.goto (-54), 3) := by decide +kernel
theorem dX12_powers_102 : decode cX12_powers 102 = .ok (.iinc 4 1, 3) := by decide +kernel
theorem dX12_powers_105 : decode cX12_powers 105 = .ok (.goto (-80), 3) := by decide +kernel
theorem dX12_powers_108 : decode cX12_powers 108 = .ok (.iload_n 3, 1) := by decide +kernel
theorem dX12_powers_109 : decode cX12_powers 109 = .ok (.ireturn, 1) := by decide +kernel
theorem dX12_power_0 : decode cX12_power 0 = .ok (.aload_n 0, 1) := by decide +kernel
theorem dX12_power_1 : decode cX12_power 1 = .ok (.iconst 0, 1) := by decide +kernel
theorem dX12_power_2 : decode cX12_power 2 = .ok (.putfield 1, 3) := by decide +kernel
theorem dX12_power_5 : decode cX12_power 5 = .ok (.aload_n 0, 1) := by decide +kernel
theorem dX12_power_6 : decode cX12_power 6 = .ok (.iload_n 1, 1) := by decide +kernel
theorem dX12_power_7 : decode cX12_power 7 = .ok (.invokevirtual 381, 3) := by decide +kernel
theorem dX12_power_10 : decode cX12_power 10 = .ok (.ifCond .eq 28, 3) := by decide +kernel
theorem dX12_power_13 : decode cX12_power 13 = .ok (.iload_n 2, 1) := by decide +kernel
theorem dX12_power_14 : decode cX12_power 14 = .ok (.iconst 1, 1) := by decide +kernel
theorem dX12_power_15 : decode cX12_power 15 = .ok (.bipush 20, 2) := by decide +kernel
theorem dX12_power_17 : decode cX12_power 17 = .ok (.invokestatic 358, 3) := by decide +kernel
theorem dX12_power_20 : decode cX12_power 20 = .ok (.ifCond .eq 18, 3) := by decide +kernel
theorem dX12_power_23 : decode cX12_power 23 = .ok (.iload_n 3, 1) := by decide +kernel
theorem dX12_power_24 : decode cX12_power 24 = .ok (.iconst 0, 1) := by decide +kernel
theorem dX12_power_25 : decode cX12_power 25 = .ok (.aload_n 0, 1) := by decide +kernel
theorem dX12_power_26 : decode cX12_power 26 = .ok (.iload_n 1, 1) := by decide +kernel
theorem dX12_power_27 : decode cX12_power 27 = .ok (.invokevirtual 375, 3) := by decide +kernel
theorem dX12_power_30 : decode cX12_power 30 = .ok (.iconst 1, 1) := by decide +kernel
theorem dX12_power_31 : decode cX12_power 31 = .ok (.isub, 1) := by decide +kernel
theorem dX12_power_32 : decode cX12_power 32 = .ok (.invokestatic 358, 3) := by decide +kernel
theorem dX12_power_35 : decode cX12_power 35 = .ok (.ifCond .ne 5, 3) := by decide +kernel
theorem dX12_power_38 : decode cX12_power 38 = .ok (.iconst (-1), 1) := by decide +kernel
theorem dX12_power_39 : decode cX12_power 39 = .ok (.ireturn, 1) := by decide +kernel
theorem dX12_power_40 : decode cX12_power 40 = .ok (.aload_n 0, 1) := by decide +kernel
theorem dX12_power_41 : decode cX12_power 41 = .ok (.iload_n 1, 1) := by decide +kernel
theorem dX12_power_42 : decode cX12_power 42 = .ok (.iload_n 2, 1) := by decide +kernel
theorem dX12_power_43 : decode cX12_power 43 = .ok (.invokevirtual 397, 3) := by decide +kernel
theorem dX12_power_46 : decode cX12_power 46 = .ok (.pop, 1) := by decide +kernel
theorem dX12_power_47 : decode cX12_power 47 = .ok (.aload_n 0, 1) := by decide +kernel
theorem dX12_power_48 : decode cX12_power 48 = .ok (.getfield 133, 3) := by decide +kernel
theorem dX12_power_51 : decode cX12_power 51 = .ok (.iload_n 3, 1) := by decide +kernel
theorem dX12_power_52 : decode cX12_power 52 = .ok (.iaload, 1) := by decide +kernel
theorem dX12_power_53 : decode cX12_power 53 = .ok (.ireturn, 1) := by decide +kernel
theorem dX12_settles_0 : decode cX12_settles 0 = .ok (.aload_n 0, 1) := by decide +kernel
theorem dX12_settles_1 : decode cX12_settles 1 = .ok (.iconst 0, 1) := by decide +kernel
theorem dX12_settles_2 : decode cX12_settles 2 = .ok (.putfield 1, 3) := by decide +kernel
theorem dX12_settles_5 : decode cX12_settles 5 = .ok (.iconst 1, 1) := by decide +kernel
theorem dX12_settles_6 : decode cX12_settles 6 = .ok (.istore_n 2, 1) := by decide +kernel
theorem dX12_settles_7 : decode cX12_settles 7 = .ok (.iload_n 2, 1) := by decide +kernel
theorem dX12_settles_8 : decode cX12_settles 8 = .ok (.bipush 20, 2) := by decide +kernel
theorem dX12_settles_10 : decode cX12_settles 10 = .ok (.if_icmp .gt 30, 3) := by decide +kernel
theorem dX12_settles_13 : decode cX12_settles 13 = .ok (.aload_n 0, 1) := by decide +kernel
theorem dX12_settles_14 : decode cX12_settles 14 = .ok (.iload_n 1, 1) := by decide +kernel
theorem dX12_settles_15 : decode cX12_settles 15 = .ok (.invokevirtual 381, 3) := by decide +kernel
theorem dX12_settles_18 : decode cX12_settles 18 = .ok (.ifCond .eq 22, 3) := by decide +kernel
theorem dX12_settles_21 : decode cX12_settles 21 = .ok (.aload_n 0, 1) := by decide +kernel
theorem dX12_settles_22 : decode cX12_settles 22 = .ok (.iload_n 1, 1) := by decide +kernel
theorem dX12_settles_23 : decode cX12_settles 23 = .ok (.iload_n 2, 1) := by decide +kernel
theorem dX12_settles_24 : decode cX12_settles 24 = .ok (.iconst 1, 1) := by decide +kernel
theorem dX12_settles_25 : decode cX12_settles 25 = .ok (.iadd, 1) := by decide +kernel
theorem dX12_settles_26 : decode cX12_settles 26 = .ok (.invokevirtual 397, 3) := by decide +kernel
theorem dX12_settles_29 : decode cX12_settles 29 = .ok (.ifCond .ne 5, 3) := by decide +kernel
theorem dX12_settles_32 : decode cX12_settles 32 = .ok (.iload_n 2, 1) := by decide +kernel
theorem dX12_settles_33 : decode cX12_settles 33 = .ok (.ireturn, 1) := by decide +kernel
theorem dX12_settles_34 : decode cX12_settles 34 = .ok (.iinc 2 1, 3) := by decide +kernel
theorem dX12_settles_37 : decode cX12_settles 37 = .ok (.goto (-30), 3) := by decide +kernel
theorem dX12_settles_40 : decode cX12_settles 40 = .ok (.iconst (-1), 1) := by decide +kernel
theorem dX12_settles_41 : decode cX12_settles 41 = .ok (.ireturn, 1) := by decide +kernel
theorem dX12_knit_0 : decode cX12_knit 0 = .ok (.aload_n 0, 1) := by decide +kernel
theorem dX12_knit_1 : decode cX12_knit 1 = .ok (.iconst 0, 1) := by decide +kernel
theorem dX12_knit_2 : decode cX12_knit 2 = .ok (.putfield 1, 3) := by decide +kernel
theorem dX12_knit_5 : decode cX12_knit 5 = .ok (.aload_n 0, 1) := by decide +kernel
theorem dX12_knit_6 : decode cX12_knit 6 = .ok (.iload_n 1, 1) := by decide +kernel
theorem dX12_knit_7 : decode cX12_knit 7 = .ok (.invokevirtual 381, 3) := by decide +kernel
theorem dX12_knit_10 : decode cX12_knit 10 = .ok (.ifCond .eq 7, 3) := by decide +kernel
theorem dX12_knit_13 : decode cX12_knit 13 = .ok (.iload_n 2, 1) := by decide +kernel
theorem dX12_knit_14 : decode cX12_knit 14 = .ok (.ifCond .ge 5, 3) := by decide +kernel
theorem dX12_knit_17 : decode cX12_knit 17 = .ok (.iconst (-1), 1) := by decide +kernel
theorem dX12_knit_18 : decode cX12_knit 18 = .ok (.ireturn, 1) := by decide +kernel
theorem dX12_knit_19 : decode cX12_knit 19 = .ok (.aload_n 0, 1) := by decide +kernel
theorem dX12_knit_20 : decode cX12_knit 20 = .ok (.iload_n 1, 1) := by decide +kernel
theorem dX12_knit_21 : decode cX12_knit 21 = .ok (.invokevirtual 375, 3) := by decide +kernel
theorem dX12_knit_24 : decode cX12_knit 24 = .ok (.istore_n 3, 1) := by decide +kernel
theorem dX12_knit_25 : decode cX12_knit 25 = .ok (.iconst 0, 1) := by decide +kernel
theorem dX12_knit_26 : decode cX12_knit 26 = .ok (.istore 4, 2) := by decide +kernel
theorem dX12_knit_28 : decode cX12_knit 28 = .ok (.iload 4, 2) := by decide +kernel
theorem dX12_knit_30 : decode cX12_knit 30 = .ok (.iload_n 3, 1) := by decide +kernel
theorem dX12_knit_31 : decode cX12_knit 31 = .ok (.if_icmp .ge 18, 3) := by decide +kernel
theorem dX12_knit_34 : decode cX12_knit 34 = .ok (.aload_n 0, 1) := by decide +kernel
theorem dX12_knit_35 : decode cX12_knit 35 = .ok (.getfield 133, 3) := by decide +kernel
theorem dX12_knit_38 : decode cX12_knit 38 = .ok (.iload 4, 2) := by decide +kernel
theorem dX12_knit_40 : decode cX12_knit 40 = .ok (.iload 4, 2) := by decide +kernel
theorem dX12_knit_42 : decode cX12_knit 42 = .ok (.iastore, 1) := by decide +kernel
theorem dX12_knit_43 : decode cX12_knit 43 = .ok (.iinc 4 1, 3) := by decide +kernel
theorem dX12_knit_46 : decode cX12_knit 46 = .ok (.goto (-18), 3) := by decide +kernel
theorem dX12_knit_49 : decode cX12_knit 49 = .ok (.iconst 0, 1) := by decide +kernel
theorem dX12_knit_50 : decode cX12_knit 50 = .ok (.istore 4, 2) := by decide +kernel
theorem dX12_knit_52 : decode cX12_knit 52 = .ok (.iload 4, 2) := by decide +kernel
theorem dX12_knit_54 : decode cX12_knit 54 = .ok (.bipush 45, 2) := by decide +kernel
theorem dX12_knit_56 : decode cX12_knit 56 = .ok (.if_icmp .ge 129, 3) := by decide +kernel
theorem dX12_knit_59 : decode cX12_knit 59 = .ok (.iconst 0, 1) := by decide +kernel
theorem dX12_knit_60 : decode cX12_knit 60 = .ok (.istore 5, 2) := by decide +kernel
theorem dX12_knit_62 : decode cX12_knit 62 = .ok (.iload 5, 2) := by decide +kernel
theorem dX12_knit_64 : decode cX12_knit 64 = .ok (.iconst 1, 1) := by decide +kernel
theorem dX12_knit_65 : decode cX12_knit 65 = .ok (.iadd, 1) := by decide +kernel
theorem dX12_knit_66 : decode cX12_knit 66 = .ok (.iload_n 3, 1) := by decide +kernel
theorem dX12_knit_67 : decode cX12_knit 67 = .ok (.if_icmp .ge 57, 3) := by decide +kernel
theorem dX12_knit_70 : decode cX12_knit 70 = .ok (.aload_n 0, 1) := by decide +kernel
theorem dX12_knit_71 : decode cX12_knit 71 = .ok (.getfield 133, 3) := by decide +kernel
theorem dX12_knit_74 : decode cX12_knit 74 = .ok (.iload 5, 2) := by decide +kernel
theorem dX12_knit_76 : decode cX12_knit 76 = .ok (.iaload, 1) := by decide +kernel
theorem dX12_knit_77 : decode cX12_knit 77 = .ok (.aload_n 0, 1) := by decide +kernel
theorem dX12_knit_78 : decode cX12_knit 78 = .ok (.getfield 133, 3) := by decide +kernel
theorem dX12_knit_81 : decode cX12_knit 81 = .ok (.iload 5, 2) := by decide +kernel
theorem dX12_knit_83 : decode cX12_knit 83 = .ok (.iconst 1, 1) := by decide +kernel
theorem dX12_knit_84 : decode cX12_knit 84 = .ok (.iadd, 1) := by decide +kernel
theorem dX12_knit_85 : decode cX12_knit 85 = .ok (.iaload, 1) := by decide +kernel
theorem dX12_knit_86 : decode cX12_knit 86 = .ok (.if_icmp .ge 32, 3) := by decide +kernel
theorem dX12_knit_89 : decode cX12_knit 89 = .ok (.aload_n 0, 1) := by decide +kernel
theorem dX12_knit_90 : decode cX12_knit 90 = .ok (.iload_n 1, 1) := by decide +kernel
theorem dX12_knit_91 : decode cX12_knit 91 = .ok (.aload_n 0, 1) := by decide +kernel
theorem dX12_knit_92 : decode cX12_knit 92 = .ok (.getfield 133, 3) := by decide +kernel
theorem dX12_knit_95 : decode cX12_knit 95 = .ok (.iload 5, 2) := by decide +kernel
theorem dX12_knit_97 : decode cX12_knit 97 = .ok (.iaload, 1) := by decide +kernel
theorem dX12_knit_98 : decode cX12_knit 98 = .ok (.invokevirtual 378, 3) := by decide +kernel
theorem dX12_knit_101 : decode cX12_knit 101 = .ok (.aload_n 0, 1) := by decide +kernel
theorem dX12_knit_102 : decode cX12_knit 102 = .ok (.iload_n 1, 1) := by decide +kernel
theorem dX12_knit_103 : decode cX12_knit 103 = .ok (.aload_n 0, 1) := by decide +kernel
theorem dX12_knit_104 : decode cX12_knit 104 = .ok (.getfield 133, 3) := by decide +kernel
theorem dX12_knit_107 : decode cX12_knit 107 = .ok (.iload 5, 2) := by decide +kernel
theorem dX12_knit_109 : decode cX12_knit 109 = .ok (.iconst 1, 1) := by decide +kernel
theorem dX12_knit_110 : decode cX12_knit 110 = .ok (.iadd, 1) := by decide +kernel
theorem dX12_knit_111 : decode cX12_knit 111 = .ok (.iaload, 1) := by decide +kernel
theorem dX12_knit_112 : decode cX12_knit 112 = .ok (.invokevirtual 378, 3) := by decide +kernel
theorem dX12_knit_115 : decode cX12_knit 115 = .ok (.if_icmp .gt 9, 3) := by decide +kernel
theorem dX12_knit_118 : decode cX12_knit 118 = .ok (.iinc 5 1, 3) := by decide +kernel
theorem dX12_knit_121 : decode cX12_knit 121 = .ok (.goto (-59), 3) := by decide +kernel
theorem dX12_knit_124 : decode cX12_knit 124 = .ok (.iload 5, 2) := by decide +kernel
theorem dX12_knit_126 : decode cX12_knit 126 = .ok (.iconst 1, 1) := by decide +kernel
theorem dX12_knit_127 : decode cX12_knit 127 = .ok (.iadd, 1) := by decide +kernel
theorem dX12_knit_128 : decode cX12_knit 128 = .ok (.iload_n 3, 1) := by decide +kernel
theorem dX12_knit_129 : decode cX12_knit 129 = .ok (.if_icmp .lt 5, 3) := by decide +kernel
theorem dX12_knit_132 : decode cX12_knit 132 = .ok (.iconst (-1), 1) := by decide +kernel
theorem dX12_knit_133 : decode cX12_knit 133 = .ok (.ireturn, 1) := by decide +kernel
theorem dX12_knit_134 : decode cX12_knit 134 = .ok (.iload 4, 2) := by decide +kernel
theorem dX12_knit_136 : decode cX12_knit 136 = .ok (.iload_n 2, 1) := by decide +kernel
theorem dX12_knit_137 : decode cX12_knit 137 = .ok (.if_icmp .ne 6, 3) := by decide +kernel
theorem dX12_knit_140 : decode cX12_knit 140 = .ok (.iload 5, 2) := by decide +kernel
theorem dX12_knit_142 : decode cX12_knit 142 = .ok (.ireturn, 1) := by decide +kernel
theorem dX12_knit_143 : decode cX12_knit 143 = .ok (.aload_n 0, 1) := by decide +kernel
theorem dX12_knit_144 : decode cX12_knit 144 = .ok (.getfield 133, 3) := by decide +kernel
theorem dX12_knit_147 : decode cX12_knit 147 = .ok (.iload 5, 2) := by decide +kernel
theorem dX12_knit_149 : decode cX12_knit 149 = .ok (.iaload, 1) := by decide +kernel
theorem dX12_knit_150 : decode cX12_knit 150 = .ok (.istore 6, 2) := by decide +kernel
theorem dX12_knit_152 : decode cX12_knit 152 = .ok (.aload_n 0, 1) := by decide +kernel
theorem dX12_knit_153 : decode cX12_knit 153 = .ok (.getfield 133, 3) := by decide +kernel
theorem dX12_knit_156 : decode cX12_knit 156 = .ok (.iload 5, 2) := by decide +kernel
theorem dX12_knit_158 : decode cX12_knit 158 = .ok (.aload_n 0, 1) := by decide +kernel
theorem dX12_knit_159 : decode cX12_knit 159 = .ok (.getfield 133, 3) := by decide +kernel
theorem dX12_knit_162 : decode cX12_knit 162 = .ok (.iload 5, 2) := by decide +kernel
theorem dX12_knit_164 : decode cX12_knit 164 = .ok (.iconst 1, 1) := by decide +kernel
theorem dX12_knit_165 : decode cX12_knit 165 = .ok (.iadd, 1) := by decide +kernel
theorem dX12_knit_166 : decode cX12_knit 166 = .ok (.iaload, 1) := by decide +kernel
theorem dX12_knit_167 : decode cX12_knit 167 = .ok (.iastore, 1) := by decide +kernel
theorem dX12_knit_168 : decode cX12_knit 168 = .ok (.aload_n 0, 1) := by decide +kernel
theorem dX12_knit_169 : decode cX12_knit 169 = .ok (.getfield 133, 3) := by decide +kernel
theorem dX12_knit_172 : decode cX12_knit 172 = .ok (.iload 5, 2) := by decide +kernel
theorem dX12_knit_174 : decode cX12_knit 174 = .ok (.iconst 1, 1) := by decide +kernel
theorem dX12_knit_175 : decode cX12_knit 175 = .ok (.iadd, 1) := by decide +kernel
theorem dX12_knit_176 : decode cX12_knit 176 = .ok (.iload 6, 2) := by decide +kernel
theorem dX12_knit_178 : decode cX12_knit 178 = .ok (.iastore, 1) := by decide +kernel
theorem dX12_knit_179 : decode cX12_knit 179 = .ok (.iinc 4 1, 3) := by decide +kernel
theorem dX12_knit_182 : decode cX12_knit 182 = .ok (.goto (-130), 3) := by decide +kernel
theorem dX12_knit_185 : decode cX12_knit 185 = .ok (.iconst (-1), 1) := by decide +kernel
theorem dX12_knit_186 : decode cX12_knit 186 = .ok (.ireturn, 1) := by decide +kernel
theorem dX12_below_0 : decode cX12_below 0 = .ok (.aload_n 0, 1) := by decide +kernel
theorem dX12_below_1 : decode cX12_below 1 = .ok (.iconst 0, 1) := by decide +kernel
theorem dX12_below_2 : decode cX12_below 2 = .ok (.putfield 1, 3) := by decide +kernel
theorem dX12_below_5 : decode cX12_below 5 = .ok (.aload_n 0, 1) := by decide +kernel
theorem dX12_below_6 : decode cX12_below 6 = .ok (.iload_n 1, 1) := by decide +kernel
theorem dX12_below_7 : decode cX12_below 7 = .ok (.invokevirtual 381, 3) := by decide +kernel
theorem dX12_below_10 : decode cX12_below 10 = .ok (.ifCond .eq 21, 3) := by decide +kernel
theorem dX12_below_13 : decode cX12_below 13 = .ok (.aload_n 0, 1) := by decide +kernel
theorem dX12_below_14 : decode cX12_below 14 = .ok (.iload_n 2, 1) := by decide +kernel
theorem dX12_below_15 : decode cX12_below 15 = .ok (.invokevirtual 381, 3) := by decide +kernel
theorem dX12_below_18 : decode cX12_below 18 = .ok (.ifCond .eq 13, 3) := by decide +kernel
theorem dX12_below_21 : decode cX12_below 21 = .ok (.aload_n 0, 1) := by decide +kernel
theorem dX12_below_22 : decode cX12_below 22 = .ok (.iconst 0, 1) := by decide +kernel
theorem dX12_below_23 : decode cX12_below 23 = .ok (.iload_n 1, 1) := by decide +kernel
theorem dX12_below_24 : decode cX12_below 24 = .ok (.iload_n 2, 1) := by decide +kernel
theorem dX12_below_25 : decode cX12_below 25 = .ok (.invokevirtual 391, 3) := by decide +kernel
theorem dX12_below_28 : decode cX12_below 28 = .ok (.ifCond .ne 5, 3) := by decide +kernel
theorem dX12_below_31 : decode cX12_below 31 = .ok (.iconst 0, 1) := by decide +kernel
theorem dX12_below_32 : decode cX12_below 32 = .ok (.ireturn, 1) := by decide +kernel
theorem dX12_below_33 : decode cX12_below 33 = .ok (.aload_n 0, 1) := by decide +kernel
theorem dX12_below_34 : decode cX12_below 34 = .ok (.iload_n 1, 1) := by decide +kernel
theorem dX12_below_35 : decode cX12_below 35 = .ok (.invokevirtual 375, 3) := by decide +kernel
theorem dX12_below_38 : decode cX12_below 38 = .ok (.istore_n 3, 1) := by decide +kernel
theorem dX12_below_39 : decode cX12_below 39 = .ok (.aload_n 0, 1) := by decide +kernel
theorem dX12_below_40 : decode cX12_below 40 = .ok (.iconst 0, 1) := by decide +kernel
theorem dX12_below_41 : decode cX12_below 41 = .ok (.iload_n 1, 1) := by decide +kernel
theorem dX12_below_42 : decode cX12_below 42 = .ok (.aload_n 0, 1) := by decide +kernel
theorem dX12_below_43 : decode cX12_below 43 = .ok (.getfield 133, 3) := by decide +kernel
theorem dX12_below_46 : decode cX12_below 46 = .ok (.invokevirtual 387, 3) := by decide +kernel
theorem dX12_below_49 : decode cX12_below 49 = .ok (.aload_n 0, 1) := by decide +kernel
theorem dX12_below_50 : decode cX12_below 50 = .ok (.iconst 0, 1) := by decide +kernel
theorem dX12_below_51 : decode cX12_below 51 = .ok (.iload_n 2, 1) := by decide +kernel
theorem dX12_below_52 : decode cX12_below 52 = .ok (.aload_n 0, 1) := by decide +kernel
theorem dX12_below_53 : decode cX12_below 53 = .ok (.getfield 136, 3) := by decide +kernel
theorem dX12_below_56 : decode cX12_below 56 = .ok (.invokevirtual 387, 3) := by decide +kernel
theorem dX12_below_59 : decode cX12_below 59 = .ok (.iconst 1, 1) := by decide +kernel
theorem dX12_below_60 : decode cX12_below 60 = .ok (.istore 4, 2) := by decide +kernel
theorem dX12_below_62 : decode cX12_below 62 = .ok (.iconst 0, 1) := by decide +kernel
theorem dX12_below_63 : decode cX12_below 63 = .ok (.istore 5, 2) := by decide +kernel
theorem dX12_below_65 : decode cX12_below 65 = .ok (.iload 5, 2) := by decide +kernel
theorem dX12_below_67 : decode cX12_below 67 = .ok (.iload_n 3, 1) := by decide +kernel
theorem dX12_below_68 : decode cX12_below 68 = .ok (.if_icmp .gt 63, 3) := by decide +kernel
theorem dX12_below_71 : decode cX12_below 71 = .ok (.iconst 0, 1) := by decide +kernel
theorem dX12_below_72 : decode cX12_below 72 = .ok (.istore 6, 2) := by decide +kernel
theorem dX12_below_74 : decode cX12_below 74 = .ok (.iload 6, 2) := by decide +kernel
theorem dX12_below_76 : decode cX12_below 76 = .ok (.iload_n 3, 1) := by decide +kernel
theorem dX12_below_77 : decode cX12_below 77 = .ok (.if_icmp .gt 48, 3) := by decide +kernel
theorem dX12_below_80 : decode cX12_below 80 = .ok (.iload 4, 2) := by decide +kernel
theorem dX12_below_82 : decode cX12_below 82 = .ok (.ifCond .eq 34, 3) := by decide +kernel
theorem dX12_below_85 : decode cX12_below 85 = .ok (.aload_n 0, 1) := by decide +kernel
theorem dX12_below_86 : decode cX12_below 86 = .ok (.getfield 133, 3) := by decide +kernel
theorem dX12_below_89 : decode cX12_below 89 = .ok (.iload_n 3, 1) := by decide +kernel
theorem dX12_below_90 : decode cX12_below 90 = .ok (.iload 5, 2) := by decide +kernel
theorem dX12_below_92 : decode cX12_below 92 = .ok (.iload 6, 2) := by decide +kernel
theorem dX12_below_94 : decode cX12_below 94 = .ok (.invokestatic 367, 3) := by decide +kernel
theorem dX12_below_97 : decode cX12_below 97 = .ok (.aload_n 0, 1) := by decide +kernel
theorem dX12_below_98 : decode cX12_below 98 = .ok (.getfield 136, 3) := by decide +kernel
theorem dX12_below_101 : decode cX12_below 101 = .ok (.iload_n 3, 1) := by decide +kernel
theorem dX12_below_102 : decode cX12_below 102 = .ok (.iload 5, 2) := by decide +kernel
theorem dX12_below_104 : decode cX12_below 104 = .ok (.iload 6, 2) := by decide +kernel
theorem dX12_below_106 : decode cX12_below 106 = .ok (.invokestatic 367, 3) := by decide +kernel
theorem dX12_below_109 : decode cX12_below 109 = .ok (.if_icmp .gt 7, 3) := by decide +kernel
theorem dX12_below_112 : decode cX12_below 112 = .ok (.iconst 1, 1) := by decide +kernel
theorem dX12_below_113 : decode cX12_below 113 = .ok (.goto 4, 3) := by decide +kernel
theorem dX12_below_116 : decode cX12_below 116 = .ok (.iconst 0, 1) := by decide +kernel
theorem dX12_below_117 : decode cX12_below 117 = .ok (.istore 4, 2) := by decide +kernel
theorem dX12_below_119 : decode cX12_below 119 = .ok (.iinc 6 1, 3) := by decide +kernel
theorem dX12_below_122 : decode cX12_below 122 = .ok (.goto (-48), 3) := by decide +kernel
theorem dX12_below_125 : decode cX12_below 125 = .ok (.iinc 5 1, 3) := by decide +kernel
theorem dX12_below_128 : decode cX12_below 128 = .ok (.goto (-63), 3) := by decide +kernel
theorem dX12_below_131 : decode cX12_below 131 = .ok (.iload 4, 2) := by decide +kernel
theorem dX12_below_133 : decode cX12_below 133 = .ok (.ireturn, 1) := by decide +kernel
theorem dX12_row_0 : decode cX12_row 0 = .ok (.aload_n 0, 1) := by decide +kernel
theorem dX12_row_1 : decode cX12_row 1 = .ok (.iconst 0, 1) := by decide +kernel
theorem dX12_row_2 : decode cX12_row 2 = .ok (.putfield 1, 3) := by decide +kernel
theorem dX12_row_5 : decode cX12_row 5 = .ok (.aload_n 0, 1) := by decide +kernel
theorem dX12_row_6 : decode cX12_row 6 = .ok (.iload_n 1, 1) := by decide +kernel
theorem dX12_row_7 : decode cX12_row 7 = .ok (.invokevirtual 289, 3) := by decide +kernel
theorem dX12_row_10 : decode cX12_row 10 = .ok (.ifCond .eq 33, 3) := by decide +kernel
theorem dX12_row_13 : decode cX12_row 13 = .ok (.iload_n 2, 1) := by decide +kernel
theorem dX12_row_14 : decode cX12_row 14 = .ok (.iconst 0, 1) := by decide +kernel
theorem dX12_row_15 : decode cX12_row 15 = .ok (.iconst 1, 1) := by decide +kernel
theorem dX12_row_16 : decode cX12_row 16 = .ok (.invokestatic 358, 3) := by decide +kernel
theorem dX12_row_19 : decode cX12_row 19 = .ok (.ifCond .eq 24, 3) := by decide +kernel
theorem dX12_row_22 : decode cX12_row 22 = .ok (.iload_n 2, 1) := by decide +kernel
theorem dX12_row_23 : decode cX12_row 23 = .ok (.ifCond .ne 11, 3) := by decide +kernel
theorem dX12_row_26 : decode cX12_row 26 = .ok (.aload_n 0, 1) := by decide +kernel
theorem dX12_row_27 : decode cX12_row 27 = .ok (.iload_n 1, 1) := by decide +kernel
theorem dX12_row_28 : decode cX12_row 28 = .ok (.invokevirtual 298, 3) := by decide +kernel
theorem dX12_row_31 : decode cX12_row 31 = .ok (.goto 13, 3) := by decide +kernel
theorem dX12_row_34 : decode cX12_row 34 = .ok (.aload_n 0, 1) := by decide +kernel
theorem dX12_row_35 : decode cX12_row 35 = .ok (.iconst 0, 1) := by decide +kernel
theorem dX12_row_36 : decode cX12_row 36 = .ok (.iload_n 1, 1) := by decide +kernel
theorem dX12_row_37 : decode cX12_row 37 = .ok (.invokevirtual 292, 3) := by decide +kernel
theorem dX12_row_40 : decode cX12_row 40 = .ok (.goto 4, 3) := by decide +kernel
theorem dX12_row_43 : decode cX12_row 43 = .ok (.iconst (-1), 1) := by decide +kernel
theorem dX12_row_44 : decode cX12_row 44 = .ok (.ireturn, 1) := by decide +kernel
theorem dX12_item_0 : decode cX12_item 0 = .ok (.aload_n 0, 1) := by decide +kernel
theorem dX12_item_1 : decode cX12_item 1 = .ok (.iconst 0, 1) := by decide +kernel
theorem dX12_item_2 : decode cX12_item 2 = .ok (.putfield 1, 3) := by decide +kernel
theorem dX12_item_5 : decode cX12_item 5 = .ok (.aload_n 0, 1) := by decide +kernel
theorem dX12_item_6 : decode cX12_item 6 = .ok (.iload_n 1, 1) := by decide +kernel
theorem dX12_item_7 : decode cX12_item 7 = .ok (.iload_n 2, 1) := by decide +kernel
theorem dX12_item_8 : decode cX12_item 8 = .ok (.invokevirtual 352, 3) := by decide +kernel
theorem dX12_item_11 : decode cX12_item 11 = .ok (.ifCond .eq 17, 3) := by decide +kernel
theorem dX12_item_14 : decode cX12_item 14 = .ok (.aload_n 0, 1) := by decide +kernel
theorem dX12_item_15 : decode cX12_item 15 = .ok (.getfield 93, 3) := by decide +kernel
theorem dX12_item_18 : decode cX12_item 18 = .ok (.iconst 0, 1) := by decide +kernel
theorem dX12_item_19 : decode cX12_item 19 = .ok (.iload_n 1, 1) := by decide +kernel
theorem dX12_item_20 : decode cX12_item 20 = .ok (.iload_n 2, 1) := by decide +kernel
theorem dX12_item_21 : decode cX12_item 21 = .ok (.invokestatic 307, 3) := by decide +kernel
theorem dX12_item_24 : decode cX12_item 24 = .ok (.iaload, 1) := by decide +kernel
theorem dX12_item_25 : decode cX12_item 25 = .ok (.goto 4, 3) := by decide +kernel
theorem dX12_item_28 : decode cX12_item 28 = .ok (.iconst (-1), 1) := by decide +kernel
theorem dX12_item_29 : decode cX12_item 29 = .ok (.ireturn, 1) := by decide +kernel
theorem dX12_weight_0 : decode cX12_weight 0 = .ok (.aload_n 0, 1) := by decide +kernel
theorem dX12_weight_1 : decode cX12_weight 1 = .ok (.aload_n 0, 1) := by decide +kernel
theorem dX12_weight_2 : decode cX12_weight 2 = .ok (.iload_n 1, 1) := by decide +kernel
theorem dX12_weight_3 : decode cX12_weight 3 = .ok (.iload_n 2, 1) := by decide +kernel
theorem dX12_weight_4 : decode cX12_weight 4 = .ok (.invokevirtual 352, 3) := by decide +kernel
theorem dX12_weight_7 : decode cX12_weight 7 = .ok (.ifCond .eq 7, 3) := by decide +kernel
theorem dX12_weight_10 : decode cX12_weight 10 = .ok (.iconst 0, 1) := by decide +kernel
theorem dX12_weight_11 : decode cX12_weight 11 = .ok (.goto 4, 3) := by decide +kernel
theorem dX12_weight_14 : decode cX12_weight 14 = .ok (.iconst 1, 1) := by decide +kernel
theorem dX12_weight_15 : decode cX12_weight 15 = .ok (.putfield 1, 3) := by decide +kernel
theorem dX12_weight_18 : decode cX12_weight 18 = .ok (.aload_n 0, 1) := by decide +kernel
theorem dX12_weight_19 : decode cX12_weight 19 = .ok (.getfield 1, 3) := by decide +kernel
theorem dX12_weight_22 : decode cX12_weight 22 = .ok (.ifCond .le 7, 3) := by decide +kernel
theorem dX12_weight_25 : decode cX12_weight 25 = .ok (.iconst 0, 1) := by decide +kernel
theorem dX12_weight_26 : decode cX12_weight 26 = .ok (.goto 30, 3) := by decide +kernel
theorem dX12_weight_29 : decode cX12_weight 29 = .ok (.aload_n 0, 1) := by decide +kernel
theorem dX12_weight_30 : decode cX12_weight 30 = .ok (.aload_n 0, 1) := by decide +kernel
theorem dX12_weight_31 : decode cX12_weight 31 = .ok (.getfield 93, 3) := by decide +kernel
theorem dX12_weight_34 : decode cX12_weight 34 = .ok (.iconst 0, 1) := by decide +kernel
theorem dX12_weight_35 : decode cX12_weight 35 = .ok (.iload_n 1, 1) := by decide +kernel
theorem dX12_weight_36 : decode cX12_weight 36 = .ok (.iload_n 2, 1) := by decide +kernel
theorem dX12_weight_37 : decode cX12_weight 37 = .ok (.invokestatic 307, 3) := by decide +kernel
theorem dX12_weight_40 : decode cX12_weight 40 = .ok (.iaload, 1) := by decide +kernel
theorem dX12_weight_41 : decode cX12_weight 41 = .ok (.iload_n 2, 1) := by decide +kernel
theorem dX12_weight_42 : decode cX12_weight 42 = .ok (.aload_n 0, 1) := by decide +kernel
theorem dX12_weight_43 : decode cX12_weight 43 = .ok (.iconst 0, 1) := by decide +kernel
theorem dX12_weight_44 : decode cX12_weight 44 = .ok (.iload_n 1, 1) := by decide +kernel
theorem dX12_weight_45 : decode cX12_weight 45 = .ok (.invokevirtual 292, 3) := by decide +kernel
theorem dX12_weight_48 : decode cX12_weight 48 = .ok (.aload_n 0, 1) := by decide +kernel
theorem dX12_weight_49 : decode cX12_weight 49 = .ok (.iload_n 1, 1) := by decide +kernel
theorem dX12_weight_50 : decode cX12_weight 50 = .ok (.invokevirtual 298, 3) := by decide +kernel
theorem dX12_weight_53 : decode cX12_weight 53 = .ok (.invokevirtual 310, 3) := by decide +kernel
theorem dX12_weight_56 : decode cX12_weight 56 = .ok (.ireturn, 1) := by decide +kernel
theorem dX12_mayDo_0 : decode cX12_mayDo 0 = .ok (.iload_n 2, 1) := by decide +kernel
theorem dX12_mayDo_1 : decode cX12_mayDo 1 = .ok (.tableswitch 111 0 3 #[31, 48, 64, 66], 31) := by decide +kernel
theorem dX12_mayDo_32 : decode cX12_mayDo 32 = .ok (.aload_n 0, 1) := by decide +kernel
theorem dX12_mayDo_33 : decode cX12_mayDo 33 = .ok (.iload_n 1, 1) := by decide +kernel
theorem dX12_mayDo_34 : decode cX12_mayDo 34 = .ok (.iload_n 3, 1) := by decide +kernel
theorem dX12_mayDo_35 : decode cX12_mayDo 35 = .ok (.invokevirtual 292, 3) := by decide +kernel
theorem dX12_mayDo_38 : decode cX12_mayDo 38 = .ok (.bipush 20, 2) := by decide +kernel
theorem dX12_mayDo_40 : decode cX12_mayDo 40 = .ok (.if_icmp .ge 7, 3) := by decide +kernel
theorem dX12_mayDo_43 : decode cX12_mayDo 43 = .ok (.iconst 1, 1) := by decide +kernel
theorem dX12_mayDo_44 : decode cX12_mayDo 44 = .ok (.goto 4, 3) := by decide +kernel
theorem dX12_mayDo_47 : decode cX12_mayDo 47 = .ok (.iconst 0, 1) := by decide +kernel
theorem dX12_mayDo_48 : decode cX12_mayDo 48 = .ok (.ireturn, 1) := by decide +kernel
theorem dX12_mayDo_49 : decode cX12_mayDo 49 = .ok (.aload_n 0, 1) := by decide +kernel
theorem dX12_mayDo_50 : decode cX12_mayDo 50 = .ok (.iload_n 1, 1) := by decide +kernel
theorem dX12_mayDo_51 : decode cX12_mayDo 51 = .ok (.iload_n 3, 1) := by decide +kernel
theorem dX12_mayDo_52 : decode cX12_mayDo 52 = .ok (.invokevirtual 292, 3) := by decide +kernel
theorem dX12_mayDo_55 : decode cX12_mayDo 55 = .ok (.iconst 1, 1) := by decide +kernel
theorem dX12_mayDo_56 : decode cX12_mayDo 56 = .ok (.if_icmp .le 7, 3) := by decide +kernel
theorem dX12_mayDo_59 : decode cX12_mayDo 59 = .ok (.iconst 1, 1) := by decide +kernel
theorem dX12_mayDo_60 : decode cX12_mayDo 60 = .ok (.goto 4, 3) := by decide +kernel
theorem dX12_mayDo_63 : decode cX12_mayDo 63 = .ok (.iconst 0, 1) := by decide +kernel
theorem dX12_mayDo_64 : decode cX12_mayDo 64 = .ok (.ireturn, 1) := by decide +kernel
theorem dX12_mayDo_65 : decode cX12_mayDo 65 = .ok (.iconst 1, 1) := by decide +kernel
theorem dX12_mayDo_66 : decode cX12_mayDo 66 = .ok (.ireturn, 1) := by decide +kernel
theorem dX12_mayDo_67 : decode cX12_mayDo 67 = .ok (.iload 4, 2) := by decide +kernel
theorem dX12_mayDo_69 : decode cX12_mayDo 69 = .ok (.aload_n 0, 1) := by decide +kernel
theorem dX12_mayDo_70 : decode cX12_mayDo 70 = .ok (.getfield 93, 3) := by decide +kernel
theorem dX12_mayDo_73 : decode cX12_mayDo 73 = .ok (.iload_n 1, 1) := by decide +kernel
theorem dX12_mayDo_74 : decode cX12_mayDo 74 = .ok (.bipush 85, 2) := by decide +kernel
theorem dX12_mayDo_76 : decode cX12_mayDo 76 = .ok (.iadd, 1) := by decide +kernel
theorem dX12_mayDo_77 : decode cX12_mayDo 77 = .ok (.iload_n 3, 1) := by decide +kernel
theorem dX12_mayDo_78 : decode cX12_mayDo 78 = .ok (.iadd, 1) := by decide +kernel
theorem dX12_mayDo_79 : decode cX12_mayDo 79 = .ok (.iaload, 1) := by decide +kernel
theorem dX12_mayDo_80 : decode cX12_mayDo 80 = .ok (.iconst 1, 1) := by decide +kernel
theorem dX12_mayDo_81 : decode cX12_mayDo 81 = .ok (.isub, 1) := by decide +kernel
theorem dX12_mayDo_82 : decode cX12_mayDo 82 = .ok (.if_icmp .ge 28, 3) := by decide +kernel
theorem dX12_mayDo_85 : decode cX12_mayDo 85 = .ok (.aload_n 0, 1) := by decide +kernel
theorem dX12_mayDo_86 : decode cX12_mayDo 86 = .ok (.iload_n 1, 1) := by decide +kernel
theorem dX12_mayDo_87 : decode cX12_mayDo 87 = .ok (.iload_n 3, 1) := by decide +kernel
theorem dX12_mayDo_88 : decode cX12_mayDo 88 = .ok (.iload 4, 2) := by decide +kernel
theorem dX12_mayDo_90 : decode cX12_mayDo 90 = .ok (.invokevirtual 400, 3) := by decide +kernel
theorem dX12_mayDo_93 : decode cX12_mayDo 93 = .ok (.aload_n 0, 1) := by decide +kernel
theorem dX12_mayDo_94 : decode cX12_mayDo 94 = .ok (.iload_n 1, 1) := by decide +kernel
theorem dX12_mayDo_95 : decode cX12_mayDo 95 = .ok (.iload_n 3, 1) := by decide +kernel
theorem dX12_mayDo_96 : decode cX12_mayDo 96 = .ok (.iload 4, 2) := by decide +kernel
theorem dX12_mayDo_98 : decode cX12_mayDo 98 = .ok (.iconst 1, 1) := by decide +kernel
theorem dX12_mayDo_99 : decode cX12_mayDo 99 = .ok (.iadd, 1) := by decide +kernel
theorem dX12_mayDo_100 : decode cX12_mayDo 100 = .ok (.invokevirtual 400, 3) := by decide +kernel
theorem dX12_mayDo_103 : decode cX12_mayDo 103 = .ok (.if_icmp .ge 7, 3) := by decide +kernel
theorem dX12_mayDo_106 : decode cX12_mayDo 106 = .ok (.iconst 1, 1) := by decide +kernel
theorem dX12_mayDo_107 : decode cX12_mayDo 107 = .ok (.goto 4, 3) := by decide +kernel
theorem dX12_mayDo_110 : decode cX12_mayDo 110 = .ok (.iconst 0, 1) := by decide +kernel
theorem dX12_mayDo_111 : decode cX12_mayDo 111 = .ok (.ireturn, 1) := by decide +kernel
theorem dX12_mayDo_112 : decode cX12_mayDo 112 = .ok (.aload_n 0, 1) := by decide +kernel
theorem dX12_mayDo_113 : decode cX12_mayDo 113 = .ok (.getfield 93, 3) := by decide +kernel
theorem dX12_mayDo_116 : decode cX12_mayDo 116 = .ok (.iload_n 1, 1) := by decide +kernel
theorem dX12_mayDo_117 : decode cX12_mayDo 117 = .ok (.bipush 84, 2) := by decide +kernel
theorem dX12_mayDo_119 : decode cX12_mayDo 119 = .ok (.iadd, 1) := by decide +kernel
theorem dX12_mayDo_120 : decode cX12_mayDo 120 = .ok (.iaload, 1) := by decide +kernel
theorem dX12_mayDo_121 : decode cX12_mayDo 121 = .ok (.bipush 8, 2) := by decide +kernel
theorem dX12_mayDo_123 : decode cX12_mayDo 123 = .ok (.if_icmp .ge 18, 3) := by decide +kernel
theorem dX12_mayDo_126 : decode cX12_mayDo 126 = .ok (.aload_n 0, 1) := by decide +kernel
theorem dX12_mayDo_127 : decode cX12_mayDo 127 = .ok (.iload_n 1, 1) := by decide +kernel
theorem dX12_mayDo_128 : decode cX12_mayDo 128 = .ok (.iload_n 3, 1) := by decide +kernel
theorem dX12_mayDo_129 : decode cX12_mayDo 129 = .ok (.iload 4, 2) := by decide +kernel
theorem dX12_mayDo_131 : decode cX12_mayDo 131 = .ok (.invokevirtual 391, 3) := by decide +kernel
theorem dX12_mayDo_134 : decode cX12_mayDo 134 = .ok (.ifCond .eq 7, 3) := by decide +kernel
theorem dX12_mayDo_137 : decode cX12_mayDo 137 = .ok (.iconst 1, 1) := by decide +kernel
theorem dX12_mayDo_138 : decode cX12_mayDo 138 = .ok (.goto 4, 3) := by decide +kernel
theorem dX12_mayDo_141 : decode cX12_mayDo 141 = .ok (.iconst 0, 1) := by decide +kernel
theorem dX12_mayDo_142 : decode cX12_mayDo 142 = .ok (.ireturn, 1) := by decide +kernel
theorem dX12_strandAt_0 : decode cX12_strandAt 0 = .ok (.iconst 0, 1) := by decide +kernel
theorem dX12_strandAt_1 : decode cX12_strandAt 1 = .ok (.istore 4, 2) := by decide +kernel
theorem dX12_strandAt_3 : decode cX12_strandAt 3 = .ok (.aload_n 0, 1) := by decide +kernel
theorem dX12_strandAt_4 : decode cX12_strandAt 4 = .ok (.getfield 93, 3) := by decide +kernel
theorem dX12_strandAt_7 : decode cX12_strandAt 7 = .ok (.iload_n 1, 1) := by decide +kernel
theorem dX12_strandAt_8 : decode cX12_strandAt 8 = .ok (.bipush 101, 2) := by decide +kernel
theorem dX12_strandAt_10 : decode cX12_strandAt 10 = .ok (.iadd, 1) := by decide +kernel
theorem dX12_strandAt_11 : decode cX12_strandAt 11 = .ok (.bipush 10, 2) := by decide +kernel
theorem dX12_strandAt_13 : decode cX12_strandAt 13 = .ok (.iload_n 2, 1) := by decide +kernel
theorem dX12_strandAt_14 : decode cX12_strandAt 14 = .ok (.imul, 1) := by decide +kernel
theorem dX12_strandAt_15 : decode cX12_strandAt 15 = .ok (.iadd, 1) := by decide +kernel
theorem dX12_strandAt_16 : decode cX12_strandAt 16 = .ok (.iload 4, 2) := by decide +kernel
theorem dX12_strandAt_18 : decode cX12_strandAt 18 = .ok (.iadd, 1) := by decide +kernel
theorem dX12_strandAt_19 : decode cX12_strandAt 19 = .ok (.iaload, 1) := by decide +kernel
theorem dX12_strandAt_20 : decode cX12_strandAt 20 = .ok (.iload_n 3, 1) := by decide +kernel
theorem dX12_strandAt_21 : decode cX12_strandAt 21 = .ok (.if_icmp .eq 9, 3) := by decide +kernel
theorem dX12_strandAt_24 : decode cX12_strandAt 24 = .ok (.iinc 4 1, 3) := by decide +kernel
theorem dX12_strandAt_27 : decode cX12_strandAt 27 = .ok (.goto (-24), 3) := by decide +kernel
theorem dX12_strandAt_30 : decode cX12_strandAt 30 = .ok (.iload 4, 2) := by decide +kernel
theorem dX12_strandAt_32 : decode cX12_strandAt 32 = .ok (.ireturn, 1) := by decide +kernel
theorem dX12_does_0 : decode cX12_does 0 = .ok (.iload_n 2, 1) := by decide +kernel
theorem dX12_does_1 : decode cX12_does 1 = .ok (.ifCond .ne 36, 3) := by decide +kernel
theorem dX12_does_4 : decode cX12_does 4 = .ok (.aload_n 0, 1) := by decide +kernel
theorem dX12_does_5 : decode cX12_does 5 = .ok (.getfield 93, 3) := by decide +kernel
theorem dX12_does_8 : decode cX12_does 8 = .ok (.iload_n 1, 1) := by decide +kernel
theorem dX12_does_9 : decode cX12_does 9 = .ok (.iload_n 3, 1) := by decide +kernel
theorem dX12_does_10 : decode cX12_does 10 = .ok (.aload_n 0, 1) := by decide +kernel
theorem dX12_does_11 : decode cX12_does 11 = .ok (.iload_n 1, 1) := by decide +kernel
theorem dX12_does_12 : decode cX12_does 12 = .ok (.iload_n 3, 1) := by decide +kernel
theorem dX12_does_13 : decode cX12_does 13 = .ok (.invokevirtual 292, 3) := by decide +kernel
theorem dX12_does_16 : decode cX12_does 16 = .ok (.invokestatic 307, 3) := by decide +kernel
theorem dX12_does_19 : decode cX12_does 19 = .ok (.iload 4, 2) := by decide +kernel
theorem dX12_does_21 : decode cX12_does 21 = .ok (.iastore, 1) := by decide +kernel
theorem dX12_does_22 : decode cX12_does 22 = .ok (.aload_n 0, 1) := by decide +kernel
theorem dX12_does_23 : decode cX12_does 23 = .ok (.getfield 93, 3) := by decide +kernel
theorem dX12_does_26 : decode cX12_does 26 = .ok (.iload_n 1, 1) := by decide +kernel
theorem dX12_does_27 : decode cX12_does 27 = .ok (.iload_n 3, 1) := by decide +kernel
theorem dX12_does_28 : decode cX12_does 28 = .ok (.iadd, 1) := by decide +kernel
theorem dX12_does_29 : decode cX12_does 29 = .ok (.dup2, 1) := by decide +kernel
theorem dX12_does_30 : decode cX12_does 30 = .ok (.iaload, 1) := by decide +kernel
theorem dX12_does_31 : decode cX12_does 31 = .ok (.iconst 1, 1) := by decide +kernel
theorem dX12_does_32 : decode cX12_does 32 = .ok (.iadd, 1) := by decide +kernel
theorem dX12_does_33 : decode cX12_does 33 = .ok (.iastore, 1) := by decide +kernel
theorem dX12_does_34 : decode cX12_does 34 = .ok (.goto 308, 3) := by decide +kernel
theorem dX12_does_37 : decode cX12_does 37 = .ok (.iload_n 2, 1) := by decide +kernel
theorem dX12_does_38 : decode cX12_does 38 = .ok (.iconst 1, 1) := by decide +kernel
theorem dX12_does_39 : decode cX12_does 39 = .ok (.if_icmp .ne 18, 3) := by decide +kernel
theorem dX12_does_42 : decode cX12_does 42 = .ok (.aload_n 0, 1) := by decide +kernel
theorem dX12_does_43 : decode cX12_does 43 = .ok (.getfield 93, 3) := by decide +kernel
theorem dX12_does_46 : decode cX12_does 46 = .ok (.iload_n 1, 1) := by decide +kernel
theorem dX12_does_47 : decode cX12_does 47 = .ok (.iload_n 3, 1) := by decide +kernel
theorem dX12_does_48 : decode cX12_does 48 = .ok (.iadd, 1) := by decide +kernel
theorem dX12_does_49 : decode cX12_does 49 = .ok (.dup2, 1) := by decide +kernel
theorem dX12_does_50 : decode cX12_does 50 = .ok (.iaload, 1) := by decide +kernel
theorem dX12_does_51 : decode cX12_does 51 = .ok (.iconst 1, 1) := by decide +kernel
theorem dX12_does_52 : decode cX12_does 52 = .ok (.isub, 1) := by decide +kernel
theorem dX12_does_53 : decode cX12_does 53 = .ok (.iastore, 1) := by decide +kernel
theorem dX12_does_54 : decode cX12_does 54 = .ok (.goto 288, 3) := by decide +kernel
theorem dX12_does_57 : decode cX12_does 57 = .ok (.iload_n 2, 1) := by decide +kernel
theorem dX12_does_58 : decode cX12_does 58 = .ok (.iconst 2, 1) := by decide +kernel
theorem dX12_does_59 : decode cX12_does 59 = .ok (.if_icmp .ne 94, 3) := by decide +kernel
theorem dX12_does_62 : decode cX12_does 62 = .ok (.aload_n 0, 1) := by decide +kernel
theorem dX12_does_63 : decode cX12_does 63 = .ok (.iload_n 1, 1) := by decide +kernel
theorem dX12_does_64 : decode cX12_does 64 = .ok (.iload_n 3, 1) := by decide +kernel
theorem dX12_does_65 : decode cX12_does 65 = .ok (.invokevirtual 292, 3) := by decide +kernel
theorem dX12_does_68 : decode cX12_does 68 = .ok (.istore 5, 2) := by decide +kernel
theorem dX12_does_70 : decode cX12_does 70 = .ok (.iconst 0, 1) := by decide +kernel
theorem dX12_does_71 : decode cX12_does 71 = .ok (.istore 6, 2) := by decide +kernel
theorem dX12_does_73 : decode cX12_does 73 = .ok (.iload 6, 2) := by decide +kernel
theorem dX12_does_75 : decode cX12_does 75 = .ok (.iload 5, 2) := by decide +kernel
theorem dX12_does_77 : decode cX12_does 77 = .ok (.iconst 2, 1) := by decide +kernel
theorem dX12_does_78 : decode cX12_does 78 = .ok (.idiv, 1) := by decide +kernel
theorem dX12_does_79 : decode cX12_does 79 = .ok (.if_icmp .ge 71, 3) := by decide +kernel
theorem dX12_does_82 : decode cX12_does 82 = .ok (.aload_n 0, 1) := by decide +kernel
theorem dX12_does_83 : decode cX12_does 83 = .ok (.getfield 93, 3) := by decide +kernel
theorem dX12_does_86 : decode cX12_does 86 = .ok (.iload_n 1, 1) := by decide +kernel
theorem dX12_does_87 : decode cX12_does 87 = .ok (.iload_n 3, 1) := by decide +kernel
theorem dX12_does_88 : decode cX12_does 88 = .ok (.iload 6, 2) := by decide +kernel
theorem dX12_does_90 : decode cX12_does 90 = .ok (.invokestatic 307, 3) := by decide +kernel
theorem dX12_does_93 : decode cX12_does 93 = .ok (.iaload, 1) := by decide +kernel
theorem dX12_does_94 : decode cX12_does 94 = .ok (.istore 7, 2) := by decide +kernel
theorem dX12_does_96 : decode cX12_does 96 = .ok (.aload_n 0, 1) := by decide +kernel
theorem dX12_does_97 : decode cX12_does 97 = .ok (.getfield 93, 3) := by decide +kernel
theorem dX12_does_100 : decode cX12_does 100 = .ok (.iload_n 1, 1) := by decide +kernel
theorem dX12_does_101 : decode cX12_does 101 = .ok (.iload_n 3, 1) := by decide +kernel
theorem dX12_does_102 : decode cX12_does 102 = .ok (.iload 6, 2) := by decide +kernel
theorem dX12_does_104 : decode cX12_does 104 = .ok (.invokestatic 307, 3) := by decide +kernel
theorem dX12_does_107 : decode cX12_does 107 = .ok (.aload_n 0, 1) := by decide +kernel
theorem dX12_does_108 : decode cX12_does 108 = .ok (.getfield 93, 3) := by decide +kernel
theorem dX12_does_111 : decode cX12_does 111 = .ok (.iload_n 1, 1) := by decide +kernel
theorem dX12_does_112 : decode cX12_does 112 = .ok (.iload_n 3, 1) := by decide +kernel
theorem dX12_does_113 : decode cX12_does 113 = .ok (.iload 5, 2) := by decide +kernel
theorem dX12_does_115 : decode cX12_does 115 = .ok (.iconst 1, 1) := by decide +kernel
theorem dX12_does_116 : decode cX12_does 116 = .ok (.isub, 1) := by decide +kernel
theorem dX12_does_117 : decode cX12_does 117 = .ok (.iload 6, 2) := by decide +kernel
theorem dX12_does_119 : decode cX12_does 119 = .ok (.isub, 1) := by decide +kernel
theorem dX12_does_120 : decode cX12_does 120 = .ok (.invokestatic 307, 3) := by decide +kernel
theorem dX12_does_123 : decode cX12_does 123 = .ok (.iaload, 1) := by decide +kernel
theorem dX12_does_124 : decode cX12_does 124 = .ok (.iastore, 1) := by decide +kernel
theorem dX12_does_125 : decode cX12_does 125 = .ok (.aload_n 0, 1) := by decide +kernel
theorem dX12_does_126 : decode cX12_does 126 = .ok (.getfield 93, 3) := by decide +kernel
theorem dX12_does_129 : decode cX12_does 129 = .ok (.iload_n 1, 1) := by decide +kernel
theorem dX12_does_130 : decode cX12_does 130 = .ok (.iload_n 3, 1) := by decide +kernel
theorem dX12_does_131 : decode cX12_does 131 = .ok (.iload 5, 2) := by decide +kernel
theorem dX12_does_133 : decode cX12_does 133 = .ok (.iconst 1, 1) := by decide +kernel
theorem dX12_does_134 : decode cX12_does 134 = .ok (.isub, 1) := by decide +kernel
theorem dX12_does_135 : decode cX12_does 135 = .ok (.iload 6, 2) := by decide +kernel
theorem dX12_does_137 : decode cX12_does 137 = .ok (.isub, 1) := by decide +kernel
theorem dX12_does_138 : decode cX12_does 138 = .ok (.invokestatic 307, 3) := by decide +kernel
theorem dX12_does_141 : decode cX12_does 141 = .ok (.iload 7, 2) := by decide +kernel
theorem dX12_does_143 : decode cX12_does 143 = .ok (.iastore, 1) := by decide +kernel
theorem dX12_does_144 : decode cX12_does 144 = .ok (.iinc 6 1, 3) := by decide +kernel
theorem dX12_does_147 : decode cX12_does 147 = .ok (.goto (-74), 3) := by decide +kernel
theorem dX12_does_150 : decode cX12_does 150 = .ok (.goto 192, 3) := by decide +kernel
theorem dX12_does_153 : decode cX12_does 153 = .ok (.iload_n 2, 1) := by decide +kernel
theorem dX12_does_154 : decode cX12_does 154 = .ok (.iconst 3, 1) := by decide +kernel
theorem dX12_does_155 : decode cX12_does 155 = .ok (.if_icmp .ne 68, 3) := by decide +kernel
theorem dX12_does_158 : decode cX12_does 158 = .ok (.aload_n 0, 1) := by decide +kernel
theorem dX12_does_159 : decode cX12_does 159 = .ok (.iload_n 1, 1) := by decide +kernel
theorem dX12_does_160 : decode cX12_does 160 = .ok (.iload_n 3, 1) := by decide +kernel
theorem dX12_does_161 : decode cX12_does 161 = .ok (.iload 4, 2) := by decide +kernel
theorem dX12_does_163 : decode cX12_does 163 = .ok (.invokevirtual 400, 3) := by decide +kernel
theorem dX12_does_166 : decode cX12_does 166 = .ok (.istore 5, 2) := by decide +kernel
theorem dX12_does_168 : decode cX12_does 168 = .ok (.aload_n 0, 1) := by decide +kernel
theorem dX12_does_169 : decode cX12_does 169 = .ok (.iload_n 1, 1) := by decide +kernel
theorem dX12_does_170 : decode cX12_does 170 = .ok (.iload_n 3, 1) := by decide +kernel
theorem dX12_does_171 : decode cX12_does 171 = .ok (.iload 4, 2) := by decide +kernel
theorem dX12_does_173 : decode cX12_does 173 = .ok (.iconst 1, 1) := by decide +kernel
theorem dX12_does_174 : decode cX12_does 174 = .ok (.iadd, 1) := by decide +kernel
theorem dX12_does_175 : decode cX12_does 175 = .ok (.invokevirtual 400, 3) := by decide +kernel
theorem dX12_does_178 : decode cX12_does 178 = .ok (.istore 6, 2) := by decide +kernel
theorem dX12_does_180 : decode cX12_does 180 = .ok (.aload_n 0, 1) := by decide +kernel
theorem dX12_does_181 : decode cX12_does 181 = .ok (.getfield 93, 3) := by decide +kernel
theorem dX12_does_184 : decode cX12_does 184 = .ok (.iload_n 1, 1) := by decide +kernel
theorem dX12_does_185 : decode cX12_does 185 = .ok (.bipush 101, 2) := by decide +kernel
theorem dX12_does_187 : decode cX12_does 187 = .ok (.iadd, 1) := by decide +kernel
theorem dX12_does_188 : decode cX12_does 188 = .ok (.bipush 10, 2) := by decide +kernel
theorem dX12_does_190 : decode cX12_does 190 = .ok (.iload_n 3, 1) := by decide +kernel
theorem dX12_does_191 : decode cX12_does 191 = .ok (.imul, 1) := by decide +kernel
theorem dX12_does_192 : decode cX12_does 192 = .ok (.iadd, 1) := by decide +kernel
theorem dX12_does_193 : decode cX12_does 193 = .ok (.iload 5, 2) := by decide +kernel
theorem dX12_does_195 : decode cX12_does 195 = .ok (.iadd, 1) := by decide +kernel
theorem dX12_does_196 : decode cX12_does 196 = .ok (.iload 4, 2) := by decide +kernel
theorem dX12_does_198 : decode cX12_does 198 = .ok (.iconst 1, 1) := by decide +kernel
theorem dX12_does_199 : decode cX12_does 199 = .ok (.iadd, 1) := by decide +kernel
theorem dX12_does_200 : decode cX12_does 200 = .ok (.iastore, 1) := by decide +kernel
theorem dX12_does_201 : decode cX12_does 201 = .ok (.aload_n 0, 1) := by decide +kernel
theorem dX12_does_202 : decode cX12_does 202 = .ok (.getfield 93, 3) := by decide +kernel
theorem dX12_does_205 : decode cX12_does 205 = .ok (.iload_n 1, 1) := by decide +kernel
theorem dX12_does_206 : decode cX12_does 206 = .ok (.bipush 101, 2) := by decide +kernel
theorem dX12_does_208 : decode cX12_does 208 = .ok (.iadd, 1) := by decide +kernel
theorem dX12_does_209 : decode cX12_does 209 = .ok (.bipush 10, 2) := by decide +kernel
theorem dX12_does_211 : decode cX12_does 211 = .ok (.iload_n 3, 1) := by decide +kernel
theorem dX12_does_212 : decode cX12_does 212 = .ok (.imul, 1) := by decide +kernel
theorem dX12_does_213 : decode cX12_does 213 = .ok (.iadd, 1) := by decide +kernel
theorem dX12_does_214 : decode cX12_does 214 = .ok (.iload 6, 2) := by decide +kernel
theorem dX12_does_216 : decode cX12_does 216 = .ok (.iadd, 1) := by decide +kernel
theorem dX12_does_217 : decode cX12_does 217 = .ok (.iload 4, 2) := by decide +kernel
theorem dX12_does_219 : decode cX12_does 219 = .ok (.iastore, 1) := by decide +kernel
theorem dX12_does_220 : decode cX12_does 220 = .ok (.goto 122, 3) := by decide +kernel
theorem dX12_does_223 : decode cX12_does 223 = .ok (.aload_n 0, 1) := by decide +kernel
theorem dX12_does_224 : decode cX12_does 224 = .ok (.iload_n 1, 1) := by decide +kernel
theorem dX12_does_225 : decode cX12_does 225 = .ok (.iload_n 3, 1) := by decide +kernel
theorem dX12_does_226 : decode cX12_does 226 = .ok (.aload_n 0, 1) := by decide +kernel
theorem dX12_does_227 : decode cX12_does 227 = .ok (.getfield 133, 3) := by decide +kernel
theorem dX12_does_230 : decode cX12_does 230 = .ok (.invokevirtual 387, 3) := by decide +kernel
theorem dX12_does_233 : decode cX12_does 233 = .ok (.aload_n 0, 1) := by decide +kernel
theorem dX12_does_234 : decode cX12_does 234 = .ok (.iload_n 1, 1) := by decide +kernel
theorem dX12_does_235 : decode cX12_does 235 = .ok (.iload 4, 2) := by decide +kernel
theorem dX12_does_237 : decode cX12_does 237 = .ok (.aload_n 0, 1) := by decide +kernel
theorem dX12_does_238 : decode cX12_does 238 = .ok (.getfield 136, 3) := by decide +kernel
theorem dX12_does_241 : decode cX12_does 241 = .ok (.invokevirtual 387, 3) := by decide +kernel
theorem dX12_does_244 : decode cX12_does 244 = .ok (.aload_n 0, 1) := by decide +kernel
theorem dX12_does_245 : decode cX12_does 245 = .ok (.getfield 93, 3) := by decide +kernel
theorem dX12_does_248 : decode cX12_does 248 = .ok (.iload_n 1, 1) := by decide +kernel
theorem dX12_does_249 : decode cX12_does 249 = .ok (.bipush 85, 2) := by decide +kernel
theorem dX12_does_251 : decode cX12_does 251 = .ok (.iadd, 1) := by decide +kernel
theorem dX12_does_252 : decode cX12_does 252 = .ok (.iload_n 3, 1) := by decide +kernel
theorem dX12_does_253 : decode cX12_does 253 = .ok (.iadd, 1) := by decide +kernel
theorem dX12_does_254 : decode cX12_does 254 = .ok (.iaload, 1) := by decide +kernel
theorem dX12_does_255 : decode cX12_does 255 = .ok (.istore 5, 2) := by decide +kernel
theorem dX12_does_257 : decode cX12_does 257 = .ok (.aload_n 0, 1) := by decide +kernel
theorem dX12_does_258 : decode cX12_does 258 = .ok (.iload 5, 2) := by decide +kernel
theorem dX12_does_260 : decode cX12_does 260 = .ok (.invokevirtual 394, 3) := by decide +kernel
theorem dX12_does_263 : decode cX12_does 263 = .ok (.aload_n 0, 1) := by decide +kernel
theorem dX12_does_264 : decode cX12_does 264 = .ok (.getfield 93, 3) := by decide +kernel
theorem dX12_does_267 : decode cX12_does 267 = .ok (.iload_n 1, 1) := by decide +kernel
theorem dX12_does_268 : decode cX12_does 268 = .ok (.bipush 84, 2) := by decide +kernel
theorem dX12_does_270 : decode cX12_does 270 = .ok (.iadd, 1) := by decide +kernel
theorem dX12_does_271 : decode cX12_does 271 = .ok (.iaload, 1) := by decide +kernel
theorem dX12_does_272 : decode cX12_does 272 = .ok (.istore 6, 2) := by decide +kernel
theorem dX12_does_274 : decode cX12_does 274 = .ok (.aload_n 0, 1) := by decide +kernel
theorem dX12_does_275 : decode cX12_does 275 = .ok (.getfield 93, 3) := by decide +kernel
theorem dX12_does_278 : decode cX12_does 278 = .ok (.iload_n 1, 1) := by decide +kernel
theorem dX12_does_279 : decode cX12_does 279 = .ok (.bipush 85, 2) := by decide +kernel
theorem dX12_does_281 : decode cX12_does 281 = .ok (.iadd, 1) := by decide +kernel
theorem dX12_does_282 : decode cX12_does 282 = .ok (.iload 6, 2) := by decide +kernel
theorem dX12_does_284 : decode cX12_does 284 = .ok (.iadd, 1) := by decide +kernel
theorem dX12_does_285 : decode cX12_does 285 = .ok (.iload 5, 2) := by decide +kernel
theorem dX12_does_287 : decode cX12_does 287 = .ok (.iastore, 1) := by decide +kernel
theorem dX12_does_288 : decode cX12_does 288 = .ok (.iconst 0, 1) := by decide +kernel
theorem dX12_does_289 : decode cX12_does 289 = .ok (.istore 7, 2) := by decide +kernel
theorem dX12_does_291 : decode cX12_does 291 = .ok (.iload 7, 2) := by decide +kernel
theorem dX12_does_293 : decode cX12_does 293 = .ok (.iload 5, 2) := by decide +kernel
theorem dX12_does_295 : decode cX12_does 295 = .ok (.if_icmp .ge 34, 3) := by decide +kernel
theorem dX12_does_298 : decode cX12_does 298 = .ok (.aload_n 0, 1) := by decide +kernel
theorem dX12_does_299 : decode cX12_does 299 = .ok (.getfield 93, 3) := by decide +kernel
theorem dX12_does_302 : decode cX12_does 302 = .ok (.iload_n 1, 1) := by decide +kernel
theorem dX12_does_303 : decode cX12_does 303 = .ok (.bipush 101, 2) := by decide +kernel
theorem dX12_does_305 : decode cX12_does 305 = .ok (.iadd, 1) := by decide +kernel
theorem dX12_does_306 : decode cX12_does 306 = .ok (.bipush 10, 2) := by decide +kernel
theorem dX12_does_308 : decode cX12_does 308 = .ok (.iload 6, 2) := by decide +kernel
theorem dX12_does_310 : decode cX12_does 310 = .ok (.imul, 1) := by decide +kernel
theorem dX12_does_311 : decode cX12_does 311 = .ok (.iadd, 1) := by decide +kernel
theorem dX12_does_312 : decode cX12_does 312 = .ok (.iload 7, 2) := by decide +kernel
theorem dX12_does_314 : decode cX12_does 314 = .ok (.iadd, 1) := by decide +kernel
theorem dX12_does_315 : decode cX12_does 315 = .ok (.aload_n 0, 1) := by decide +kernel
theorem dX12_does_316 : decode cX12_does 316 = .ok (.getfield 139, 3) := by decide +kernel
theorem dX12_does_319 : decode cX12_does 319 = .ok (.iload 7, 2) := by decide +kernel
theorem dX12_does_321 : decode cX12_does 321 = .ok (.iaload, 1) := by decide +kernel
theorem dX12_does_322 : decode cX12_does 322 = .ok (.iastore, 1) := by decide +kernel
theorem dX12_does_323 : decode cX12_does 323 = .ok (.iinc 7 1, 3) := by decide +kernel
theorem dX12_does_326 : decode cX12_does 326 = .ok (.goto (-35), 3) := by decide +kernel
theorem dX12_does_329 : decode cX12_does 329 = .ok (.aload_n 0, 1) := by decide +kernel
theorem dX12_does_330 : decode cX12_does 330 = .ok (.getfield 93, 3) := by decide +kernel
theorem dX12_does_333 : decode cX12_does 333 = .ok (.iload_n 1, 1) := by decide +kernel
theorem dX12_does_334 : decode cX12_does 334 = .ok (.bipush 84, 2) := by decide +kernel
theorem dX12_does_336 : decode cX12_does 336 = .ok (.iadd, 1) := by decide +kernel
theorem dX12_does_337 : decode cX12_does 337 = .ok (.dup2, 1) := by decide +kernel
theorem dX12_does_338 : decode cX12_does 338 = .ok (.iaload, 1) := by decide +kernel
theorem dX12_does_339 : decode cX12_does 339 = .ok (.iconst 1, 1) := by decide +kernel
theorem dX12_does_340 : decode cX12_does 340 = .ok (.iadd, 1) := by decide +kernel
theorem dX12_does_341 : decode cX12_does 341 = .ok (.iastore, 1) := by decide +kernel
theorem dX12_does_342 : decode cX12_does 342 = .ok (.return_, 1) := by decide +kernel
theorem dX12_isDone_0 : decode cX12_isDone 0 = .ok (.aload_n 0, 1) := by decide +kernel
theorem dX12_isDone_1 : decode cX12_isDone 1 = .ok (.iconst 0, 1) := by decide +kernel
theorem dX12_isDone_2 : decode cX12_isDone 2 = .ok (.iload_n 1, 1) := by decide +kernel
theorem dX12_isDone_3 : decode cX12_isDone 3 = .ok (.iload_n 2, 1) := by decide +kernel
theorem dX12_isDone_4 : decode cX12_isDone 4 = .ok (.iload_n 3, 1) := by decide +kernel
theorem dX12_isDone_5 : decode cX12_isDone 5 = .ok (.invokevirtual 403, 3) := by decide +kernel
theorem dX12_isDone_8 : decode cX12_isDone 8 = .ok (.ifCond .ne 5, 3) := by decide +kernel
theorem dX12_isDone_11 : decode cX12_isDone 11 = .ok (.iconst 0, 1) := by decide +kernel
theorem dX12_isDone_12 : decode cX12_isDone 12 = .ok (.ireturn, 1) := by decide +kernel
theorem dX12_isDone_13 : decode cX12_isDone 13 = .ok (.aload_n 0, 1) := by decide +kernel
theorem dX12_isDone_14 : decode cX12_isDone 14 = .ok (.invokevirtual 407, 3) := by decide +kernel
theorem dX12_isDone_17 : decode cX12_isDone 17 = .ok (.aload_n 0, 1) := by decide +kernel
theorem dX12_isDone_18 : decode cX12_isDone 18 = .ok (.iconst 0, 1) := by decide +kernel
theorem dX12_isDone_19 : decode cX12_isDone 19 = .ok (.iload_n 1, 1) := by decide +kernel
theorem dX12_isDone_20 : decode cX12_isDone 20 = .ok (.iload_n 2, 1) := by decide +kernel
theorem dX12_isDone_21 : decode cX12_isDone 21 = .ok (.iload_n 3, 1) := by decide +kernel
theorem dX12_isDone_22 : decode cX12_isDone 22 = .ok (.invokevirtual 410, 3) := by decide +kernel
theorem dX12_isDone_25 : decode cX12_isDone 25 = .ok (.iconst 1, 1) := by decide +kernel
theorem dX12_isDone_26 : decode cX12_isDone 26 = .ok (.ireturn, 1) := by decide +kernel
theorem dX12_append_0 : decode cX12_append 0 = .ok (.aload_n 0, 1) := by decide +kernel
theorem dX12_append_1 : decode cX12_append 1 = .ok (.iconst 0, 1) := by decide +kernel
theorem dX12_append_2 : decode cX12_append 2 = .ok (.putfield 1, 3) := by decide +kernel
theorem dX12_append_5 : decode cX12_append 5 = .ok (.aload_n 0, 1) := by decide +kernel
theorem dX12_append_6 : decode cX12_append 6 = .ok (.iload_n 1, 1) := by decide +kernel
theorem dX12_append_7 : decode cX12_append 7 = .ok (.invokevirtual 289, 3) := by decide +kernel
theorem dX12_append_10 : decode cX12_append 10 = .ok (.ifCond .eq 32, 3) := by decide +kernel
theorem dX12_append_13 : decode cX12_append 13 = .ok (.iload_n 2, 1) := by decide +kernel
theorem dX12_append_14 : decode cX12_append 14 = .ok (.iconst 0, 1) := by decide +kernel
theorem dX12_append_15 : decode cX12_append 15 = .ok (.bipush 99, 2) := by decide +kernel
theorem dX12_append_17 : decode cX12_append 17 = .ok (.invokestatic 358, 3) := by decide +kernel
theorem dX12_append_20 : decode cX12_append 20 = .ok (.ifCond .eq 22, 3) := by decide +kernel
theorem dX12_append_23 : decode cX12_append 23 = .ok (.aload_n 0, 1) := by decide +kernel
theorem dX12_append_24 : decode cX12_append 24 = .ok (.iconst 0, 1) := by decide +kernel
theorem dX12_append_25 : decode cX12_append 25 = .ok (.iload_n 1, 1) := by decide +kernel
theorem dX12_append_26 : decode cX12_append 26 = .ok (.iload_n 2, 1) := by decide +kernel
theorem dX12_append_27 : decode cX12_append 27 = .ok (.invokevirtual 414, 3) := by decide +kernel
theorem dX12_append_30 : decode cX12_append 30 = .ok (.ifCond .eq 12, 3) := by decide +kernel
theorem dX12_append_33 : decode cX12_append 33 = .ok (.aload_n 0, 1) := by decide +kernel
theorem dX12_append_34 : decode cX12_append 34 = .ok (.iconst 0, 1) := by decide +kernel
theorem dX12_append_35 : decode cX12_append 35 = .ok (.iload_n 1, 1) := by decide +kernel
theorem dX12_append_36 : decode cX12_append 36 = .ok (.invokevirtual 292, 3) := by decide +kernel
theorem dX12_append_39 : decode cX12_append 39 = .ok (.goto 4, 3) := by decide +kernel
theorem dX12_append_42 : decode cX12_append 42 = .ok (.iconst (-1), 1) := by decide +kernel
theorem dX12_append_43 : decode cX12_append 43 = .ok (.ireturn, 1) := by decide +kernel
theorem dX12_cut_0 : decode cX12_cut 0 = .ok (.aload_n 0, 1) := by decide +kernel
theorem dX12_cut_1 : decode cX12_cut 1 = .ok (.iconst 0, 1) := by decide +kernel
theorem dX12_cut_2 : decode cX12_cut 2 = .ok (.putfield 1, 3) := by decide +kernel
theorem dX12_cut_5 : decode cX12_cut 5 = .ok (.aload_n 0, 1) := by decide +kernel
theorem dX12_cut_6 : decode cX12_cut 6 = .ok (.iload_n 1, 1) := by decide +kernel
theorem dX12_cut_7 : decode cX12_cut 7 = .ok (.invokevirtual 289, 3) := by decide +kernel
theorem dX12_cut_10 : decode cX12_cut 10 = .ok (.ifCond .eq 32, 3) := by decide +kernel
theorem dX12_cut_13 : decode cX12_cut 13 = .ok (.aload_n 0, 1) := by decide +kernel
theorem dX12_cut_14 : decode cX12_cut 14 = .ok (.iconst 1, 1) := by decide +kernel
theorem dX12_cut_15 : decode cX12_cut 15 = .ok (.iload_n 1, 1) := by decide +kernel
theorem dX12_cut_16 : decode cX12_cut 16 = .ok (.iconst 0, 1) := by decide +kernel
theorem dX12_cut_17 : decode cX12_cut 17 = .ok (.invokevirtual 414, 3) := by decide +kernel
theorem dX12_cut_20 : decode cX12_cut 20 = .ok (.ifCond .eq 22, 3) := by decide +kernel
theorem dX12_cut_23 : decode cX12_cut 23 = .ok (.aload_n 0, 1) := by decide +kernel
theorem dX12_cut_24 : decode cX12_cut 24 = .ok (.getfield 93, 3) := by decide +kernel
theorem dX12_cut_27 : decode cX12_cut 27 = .ok (.iconst 0, 1) := by decide +kernel
theorem dX12_cut_28 : decode cX12_cut 28 = .ok (.iload_n 1, 1) := by decide +kernel
theorem dX12_cut_29 : decode cX12_cut 29 = .ok (.aload_n 0, 1) := by decide +kernel
theorem dX12_cut_30 : decode cX12_cut 30 = .ok (.iconst 0, 1) := by decide +kernel
theorem dX12_cut_31 : decode cX12_cut 31 = .ok (.iload_n 1, 1) := by decide +kernel
theorem dX12_cut_32 : decode cX12_cut 32 = .ok (.invokevirtual 292, 3) := by decide +kernel
theorem dX12_cut_35 : decode cX12_cut 35 = .ok (.invokestatic 307, 3) := by decide +kernel
theorem dX12_cut_38 : decode cX12_cut 38 = .ok (.iaload, 1) := by decide +kernel
theorem dX12_cut_39 : decode cX12_cut 39 = .ok (.goto 4, 3) := by decide +kernel
theorem dX12_cut_42 : decode cX12_cut 42 = .ok (.iconst (-1), 1) := by decide +kernel
theorem dX12_cut_43 : decode cX12_cut 43 = .ok (.ireturn, 1) := by decide +kernel
theorem dX12_turn_0 : decode cX12_turn 0 = .ok (.aload_n 0, 1) := by decide +kernel
theorem dX12_turn_1 : decode cX12_turn 1 = .ok (.iconst 0, 1) := by decide +kernel
theorem dX12_turn_2 : decode cX12_turn 2 = .ok (.putfield 1, 3) := by decide +kernel
theorem dX12_turn_5 : decode cX12_turn 5 = .ok (.aload_n 0, 1) := by decide +kernel
theorem dX12_turn_6 : decode cX12_turn 6 = .ok (.iload_n 1, 1) := by decide +kernel
theorem dX12_turn_7 : decode cX12_turn 7 = .ok (.invokevirtual 289, 3) := by decide +kernel
theorem dX12_turn_10 : decode cX12_turn 10 = .ok (.ifCond .eq 17, 3) := by decide +kernel
theorem dX12_turn_13 : decode cX12_turn 13 = .ok (.aload_n 0, 1) := by decide +kernel
theorem dX12_turn_14 : decode cX12_turn 14 = .ok (.iconst 2, 1) := by decide +kernel
theorem dX12_turn_15 : decode cX12_turn 15 = .ok (.iload_n 1, 1) := by decide +kernel
theorem dX12_turn_16 : decode cX12_turn 16 = .ok (.iconst 0, 1) := by decide +kernel
theorem dX12_turn_17 : decode cX12_turn 17 = .ok (.invokevirtual 414, 3) := by decide +kernel
theorem dX12_turn_20 : decode cX12_turn 20 = .ok (.ifCond .eq 7, 3) := by decide +kernel
theorem dX12_turn_23 : decode cX12_turn 23 = .ok (.iconst 1, 1) := by decide +kernel
theorem dX12_turn_24 : decode cX12_turn 24 = .ok (.goto 4, 3) := by decide +kernel
theorem dX12_turn_27 : decode cX12_turn 27 = .ok (.iconst 0, 1) := by decide +kernel
theorem dX12_turn_28 : decode cX12_turn 28 = .ok (.ireturn, 1) := by decide +kernel
theorem dX12_cross_0 : decode cX12_cross 0 = .ok (.aload_n 0, 1) := by decide +kernel
theorem dX12_cross_1 : decode cX12_cross 1 = .ok (.iconst 0, 1) := by decide +kernel
theorem dX12_cross_2 : decode cX12_cross 2 = .ok (.putfield 1, 3) := by decide +kernel
theorem dX12_cross_5 : decode cX12_cross 5 = .ok (.aload_n 0, 1) := by decide +kernel
theorem dX12_cross_6 : decode cX12_cross 6 = .ok (.iload_n 1, 1) := by decide +kernel
theorem dX12_cross_7 : decode cX12_cross 7 = .ok (.invokevirtual 381, 3) := by decide +kernel
theorem dX12_cross_10 : decode cX12_cross 10 = .ok (.ifCond .eq 21, 3) := by decide +kernel
theorem dX12_cross_13 : decode cX12_cross 13 = .ok (.iload_n 2, 1) := by decide +kernel
theorem dX12_cross_14 : decode cX12_cross 14 = .ok (.ifCond .lt 17, 3) := by decide +kernel
theorem dX12_cross_17 : decode cX12_cross 17 = .ok (.aload_n 0, 1) := by decide +kernel
theorem dX12_cross_18 : decode cX12_cross 18 = .ok (.iconst 3, 1) := by decide +kernel
theorem dX12_cross_19 : decode cX12_cross 19 = .ok (.iload_n 1, 1) := by decide +kernel
theorem dX12_cross_20 : decode cX12_cross 20 = .ok (.iload_n 2, 1) := by decide +kernel
theorem dX12_cross_21 : decode cX12_cross 21 = .ok (.invokevirtual 414, 3) := by decide +kernel
theorem dX12_cross_24 : decode cX12_cross 24 = .ok (.ifCond .eq 7, 3) := by decide +kernel
theorem dX12_cross_27 : decode cX12_cross 27 = .ok (.iconst 1, 1) := by decide +kernel
theorem dX12_cross_28 : decode cX12_cross 28 = .ok (.goto 4, 3) := by decide +kernel
theorem dX12_cross_31 : decode cX12_cross 31 = .ok (.iconst 0, 1) := by decide +kernel
theorem dX12_cross_32 : decode cX12_cross 32 = .ok (.ireturn, 1) := by decide +kernel
theorem dX12_keep_0 : decode cX12_keep 0 = .ok (.aload_n 0, 1) := by decide +kernel
theorem dX12_keep_1 : decode cX12_keep 1 = .ok (.iconst 0, 1) := by decide +kernel
theorem dX12_keep_2 : decode cX12_keep 2 = .ok (.putfield 1, 3) := by decide +kernel
theorem dX12_keep_5 : decode cX12_keep 5 = .ok (.aload_n 0, 1) := by decide +kernel
theorem dX12_keep_6 : decode cX12_keep 6 = .ok (.iload_n 1, 1) := by decide +kernel
theorem dX12_keep_7 : decode cX12_keep 7 = .ok (.invokevirtual 381, 3) := by decide +kernel
theorem dX12_keep_10 : decode cX12_keep 10 = .ok (.ifCond .eq 21, 3) := by decide +kernel
theorem dX12_keep_13 : decode cX12_keep 13 = .ok (.aload_n 0, 1) := by decide +kernel
theorem dX12_keep_14 : decode cX12_keep 14 = .ok (.iload_n 2, 1) := by decide +kernel
theorem dX12_keep_15 : decode cX12_keep 15 = .ok (.invokevirtual 381, 3) := by decide +kernel
theorem dX12_keep_18 : decode cX12_keep 18 = .ok (.ifCond .eq 13, 3) := by decide +kernel
theorem dX12_keep_21 : decode cX12_keep 21 = .ok (.aload_n 0, 1) := by decide +kernel
theorem dX12_keep_22 : decode cX12_keep 22 = .ok (.iconst 4, 1) := by decide +kernel
theorem dX12_keep_23 : decode cX12_keep 23 = .ok (.iload_n 1, 1) := by decide +kernel
theorem dX12_keep_24 : decode cX12_keep 24 = .ok (.iload_n 2, 1) := by decide +kernel
theorem dX12_keep_25 : decode cX12_keep 25 = .ok (.invokevirtual 414, 3) := by decide +kernel
theorem dX12_keep_28 : decode cX12_keep 28 = .ok (.ifCond .ne 5, 3) := by decide +kernel
theorem dX12_keep_31 : decode cX12_keep 31 = .ok (.iconst (-1), 1) := by decide +kernel
theorem dX12_keep_32 : decode cX12_keep 32 = .ok (.ireturn, 1) := by decide +kernel
theorem dX12_keep_33 : decode cX12_keep 33 = .ok (.aload_n 0, 1) := by decide +kernel
theorem dX12_keep_34 : decode cX12_keep 34 = .ok (.getfield 93, 3) := by decide +kernel
theorem dX12_keep_37 : decode cX12_keep 37 = .ok (.bipush 93, 2) := by decide +kernel
theorem dX12_keep_39 : decode cX12_keep 39 = .ok (.aload_n 0, 1) := by decide +kernel
theorem dX12_keep_40 : decode cX12_keep 40 = .ok (.getfield 93, 3) := by decide +kernel
theorem dX12_keep_43 : decode cX12_keep 43 = .ok (.bipush 84, 2) := by decide +kernel
theorem dX12_keep_45 : decode cX12_keep 45 = .ok (.iaload, 1) := by decide +kernel
theorem dX12_keep_46 : decode cX12_keep 46 = .ok (.iadd, 1) := by decide +kernel
theorem dX12_keep_47 : decode cX12_keep 47 = .ok (.iconst 1, 1) := by decide +kernel
theorem dX12_keep_48 : decode cX12_keep 48 = .ok (.isub, 1) := by decide +kernel
theorem dX12_keep_49 : decode cX12_keep 49 = .ok (.aload_n 0, 1) := by decide +kernel
theorem dX12_keep_50 : decode cX12_keep 50 = .ok (.getfield 279, 3) := by decide +kernel
theorem dX12_keep_53 : decode cX12_keep 53 = .ok (.iastore, 1) := by decide +kernel
theorem dX12_keep_54 : decode cX12_keep 54 = .ok (.aload_n 0, 1) := by decide +kernel
theorem dX12_keep_55 : decode cX12_keep 55 = .ok (.dup, 1) := by decide +kernel
theorem dX12_keep_56 : decode cX12_keep 56 = .ok (.getfield 279, 3) := by decide +kernel
theorem dX12_keep_59 : decode cX12_keep 59 = .ok (.iconst 1, 1) := by decide +kernel
theorem dX12_keep_60 : decode cX12_keep 60 = .ok (.iadd, 1) := by decide +kernel
theorem dX12_keep_61 : decode cX12_keep 61 = .ok (.putfield 279, 3) := by decide +kernel
theorem dX12_keep_64 : decode cX12_keep 64 = .ok (.aload_n 0, 1) := by decide +kernel
theorem dX12_keep_65 : decode cX12_keep 65 = .ok (.getfield 93, 3) := by decide +kernel
theorem dX12_keep_68 : decode cX12_keep 68 = .ok (.bipush 84, 2) := by decide +kernel
theorem dX12_keep_70 : decode cX12_keep 70 = .ok (.iaload, 1) := by decide +kernel
theorem dX12_keep_71 : decode cX12_keep 71 = .ok (.iconst 1, 1) := by decide +kernel
theorem dX12_keep_72 : decode cX12_keep 72 = .ok (.isub, 1) := by decide +kernel
theorem dX12_keep_73 : decode cX12_keep 73 = .ok (.ireturn, 1) := by decide +kernel
theorem dX12_undo_0 : decode cX12_undo 0 = .ok (.aload_n 0, 1) := by decide +kernel
theorem dX12_undo_1 : decode cX12_undo 1 = .ok (.iconst 0, 1) := by decide +kernel
theorem dX12_undo_2 : decode cX12_undo 2 = .ok (.putfield 1, 3) := by decide +kernel
theorem dX12_undo_5 : decode cX12_undo 5 = .ok (.aload_n 0, 1) := by decide +kernel
theorem dX12_undo_6 : decode cX12_undo 6 = .ok (.getfield 282, 3) := by decide +kernel
theorem dX12_undo_9 : decode cX12_undo 9 = .ok (.ifCond .ne 5, 3) := by decide +kernel
theorem dX12_undo_12 : decode cX12_undo 12 = .ok (.iconst 0, 1) := by decide +kernel
theorem dX12_undo_13 : decode cX12_undo 13 = .ok (.ireturn, 1) := by decide +kernel
theorem dX12_undo_14 : decode cX12_undo 14 = .ok (.aload_n 0, 1) := by decide +kernel
theorem dX12_undo_15 : decode cX12_undo 15 = .ok (.dup, 1) := by decide +kernel
theorem dX12_undo_16 : decode cX12_undo 16 = .ok (.getfield 282, 3) := by decide +kernel
theorem dX12_undo_19 : decode cX12_undo 19 = .ok (.iconst 1, 1) := by decide +kernel
theorem dX12_undo_20 : decode cX12_undo 20 = .ok (.isub, 1) := by decide +kernel
theorem dX12_undo_21 : decode cX12_undo 21 = .ok (.putfield 282, 3) := by decide +kernel
theorem dX12_undo_24 : decode cX12_undo 24 = .ok (.aload_n 0, 1) := by decide +kernel
theorem dX12_undo_25 : decode cX12_undo 25 = .ok (.sipush 206, 3) := by decide +kernel
theorem dX12_undo_28 : decode cX12_undo 28 = .ok (.iconst 5, 1) := by decide +kernel
theorem dX12_undo_29 : decode cX12_undo 29 = .ok (.aload_n 0, 1) := by decide +kernel
theorem dX12_undo_30 : decode cX12_undo 30 = .ok (.getfield 282, 3) := by decide +kernel
theorem dX12_undo_33 : decode cX12_undo 33 = .ok (.iadd, 1) := by decide +kernel
theorem dX12_undo_34 : decode cX12_undo 34 = .ok (.imul, 1) := by decide +kernel
theorem dX12_undo_35 : decode cX12_undo 35 = .ok (.iconst 0, 1) := by decide +kernel
theorem dX12_undo_36 : decode cX12_undo 36 = .ok (.sipush 181, 3) := by decide +kernel
theorem dX12_undo_39 : decode cX12_undo 39 = .ok (.invokevirtual 285, 3) := by decide +kernel
theorem dX12_undo_42 : decode cX12_undo 42 = .ok (.iconst 1, 1) := by decide +kernel
theorem dX12_undo_43 : decode cX12_undo 43 = .ok (.ireturn, 1) := by decide +kernel
theorem dX12_numbersOf_0 : decode cX12_numbersOf 0 = .ok (.iconst 0, 1) := by decide +kernel
theorem dX12_numbersOf_1 : decode cX12_numbersOf 1 = .ok (.istore_n 2, 1) := by decide +kernel
theorem dX12_numbersOf_2 : decode cX12_numbersOf 2 = .ok (.iconst 0, 1) := by decide +kernel
theorem dX12_numbersOf_3 : decode cX12_numbersOf 3 = .ok (.istore_n 3, 1) := by decide +kernel
theorem dX12_numbersOf_4 : decode cX12_numbersOf 4 = .ok (.iload_n 3, 1) := by decide +kernel
theorem dX12_numbersOf_5 : decode cX12_numbersOf 5 = .ok (.aload_n 0, 1) := by decide +kernel
theorem dX12_numbersOf_6 : decode cX12_numbersOf 6 = .ok (.invokevirtual 272, 3) := by decide +kernel
theorem dX12_numbersOf_9 : decode cX12_numbersOf 9 = .ok (.if_icmp .ge 18, 3) := by decide +kernel
theorem dX12_numbersOf_12 : decode cX12_numbersOf 12 = .ok (.iload_n 2, 1) := by decide +kernel
theorem dX12_numbersOf_13 : decode cX12_numbersOf 13 = .ok (.aload_n 0, 1) := by decide +kernel
theorem dX12_numbersOf_14 : decode cX12_numbersOf 14 = .ok (.iload_n 1, 1) := by decide +kernel
theorem dX12_numbersOf_15 : decode cX12_numbersOf 15 = .ok (.iload_n 3, 1) := by decide +kernel
theorem dX12_numbersOf_16 : decode cX12_numbersOf 16 = .ok (.invokevirtual 292, 3) := by decide +kernel
theorem dX12_numbersOf_19 : decode cX12_numbersOf 19 = .ok (.iadd, 1) := by decide +kernel
theorem dX12_numbersOf_20 : decode cX12_numbersOf 20 = .ok (.istore_n 2, 1) := by decide +kernel
theorem dX12_numbersOf_21 : decode cX12_numbersOf 21 = .ok (.iinc 3 1, 3) := by decide +kernel
theorem dX12_numbersOf_24 : decode cX12_numbersOf 24 = .ok (.goto (-20), 3) := by decide +kernel
theorem dX12_numbersOf_27 : decode cX12_numbersOf 27 = .ok (.iload_n 2, 1) := by decide +kernel
theorem dX12_numbersOf_28 : decode cX12_numbersOf 28 = .ok (.ireturn, 1) := by decide +kernel
theorem dX12_judged_0 : decode cX12_judged 0 = .ok (.aload_n 0, 1) := by decide +kernel
theorem dX12_judged_1 : decode cX12_judged 1 = .ok (.iconst 0, 1) := by decide +kernel
theorem dX12_judged_2 : decode cX12_judged 2 = .ok (.putfield 1, 3) := by decide +kernel
theorem dX12_judged_5 : decode cX12_judged 5 = .ok (.iload_n 1, 1) := by decide +kernel
theorem dX12_judged_6 : decode cX12_judged 6 = .ok (.iconst 0, 1) := by decide +kernel
theorem dX12_judged_7 : decode cX12_judged 7 = .ok (.iconst 2, 1) := by decide +kernel
theorem dX12_judged_8 : decode cX12_judged 8 = .ok (.invokestatic 358, 3) := by decide +kernel
theorem dX12_judged_11 : decode cX12_judged 11 = .ok (.ifCond .ne 6, 3) := by decide +kernel
theorem dX12_judged_14 : decode cX12_judged 14 = .ok (.bipush (-2), 2) := by decide +kernel
theorem dX12_judged_16 : decode cX12_judged 16 = .ok (.ireturn, 1) := by decide +kernel
theorem dX12_judged_17 : decode cX12_judged 17 = .ok (.aload_n 0, 1) := by decide +kernel
theorem dX12_judged_18 : decode cX12_judged 18 = .ok (.sipush 4326, 3) := by decide +kernel
theorem dX12_judged_21 : decode cX12_judged 21 = .ok (.invokevirtual 276, 3) := by decide +kernel
theorem dX12_judged_24 : decode cX12_judged 24 = .ok (.iconst (-1), 1) := by decide +kernel
theorem dX12_judged_25 : decode cX12_judged 25 = .ok (.istore_n 2, 1) := by decide +kernel
theorem dX12_judged_26 : decode cX12_judged 26 = .ok (.iconst 0, 1) := by decide +kernel
theorem dX12_judged_27 : decode cX12_judged 27 = .ok (.istore_n 3, 1) := by decide +kernel
theorem dX12_judged_28 : decode cX12_judged 28 = .ok (.iload_n 3, 1) := by decide +kernel
theorem dX12_judged_29 : decode cX12_judged 29 = .ok (.aload_n 0, 1) := by decide +kernel
theorem dX12_judged_30 : decode cX12_judged 30 = .ok (.getfield 84, 3) := by decide +kernel
theorem dX12_judged_33 : decode cX12_judged 33 = .ok (.iconst 0, 1) := by decide +kernel
theorem dX12_judged_34 : decode cX12_judged 34 = .ok (.iaload, 1) := by decide +kernel
theorem dX12_judged_35 : decode cX12_judged 35 = .ok (.if_icmp .ge 102, 3) := by decide +kernel
theorem dX12_judged_38 : decode cX12_judged 38 = .ok (.iconst 1, 1) := by decide +kernel
theorem dX12_judged_39 : decode cX12_judged 39 = .ok (.iconst 3, 1) := by decide +kernel
theorem dX12_judged_40 : decode cX12_judged 40 = .ok (.iload_n 3, 1) := by decide +kernel
theorem dX12_judged_41 : decode cX12_judged 41 = .ok (.imul, 1) := by decide +kernel
theorem dX12_judged_42 : decode cX12_judged 42 = .ok (.iadd, 1) := by decide +kernel
theorem dX12_judged_43 : decode cX12_judged 43 = .ok (.istore 4, 2) := by decide +kernel
theorem dX12_judged_45 : decode cX12_judged 45 = .ok (.aload_n 0, 1) := by decide +kernel
theorem dX12_judged_46 : decode cX12_judged 46 = .ok (.sipush 4326, 3) := by decide +kernel
theorem dX12_judged_49 : decode cX12_judged 49 = .ok (.aload_n 0, 1) := by decide +kernel
theorem dX12_judged_50 : decode cX12_judged 50 = .ok (.getfield 84, 3) := by decide +kernel
theorem dX12_judged_53 : decode cX12_judged 53 = .ok (.iload 4, 2) := by decide +kernel
theorem dX12_judged_55 : decode cX12_judged 55 = .ok (.iaload, 1) := by decide +kernel
theorem dX12_judged_56 : decode cX12_judged 56 = .ok (.aload_n 0, 1) := by decide +kernel
theorem dX12_judged_57 : decode cX12_judged 57 = .ok (.getfield 84, 3) := by decide +kernel
theorem dX12_judged_60 : decode cX12_judged 60 = .ok (.iload 4, 2) := by decide +kernel
theorem dX12_judged_62 : decode cX12_judged 62 = .ok (.iconst 1, 1) := by decide +kernel
theorem dX12_judged_63 : decode cX12_judged 63 = .ok (.iadd, 1) := by decide +kernel
theorem dX12_judged_64 : decode cX12_judged 64 = .ok (.iaload, 1) := by decide +kernel
theorem dX12_judged_65 : decode cX12_judged 65 = .ok (.aload_n 0, 1) := by decide +kernel
theorem dX12_judged_66 : decode cX12_judged 66 = .ok (.getfield 84, 3) := by decide +kernel
theorem dX12_judged_69 : decode cX12_judged 69 = .ok (.iload 4, 2) := by decide +kernel
theorem dX12_judged_71 : decode cX12_judged 71 = .ok (.iconst 2, 1) := by decide +kernel
theorem dX12_judged_72 : decode cX12_judged 72 = .ok (.iadd, 1) := by decide +kernel
theorem dX12_judged_73 : decode cX12_judged 73 = .ok (.iaload, 1) := by decide +kernel
theorem dX12_judged_74 : decode cX12_judged 74 = .ok (.invokevirtual 403, 3) := by decide +kernel
theorem dX12_judged_77 : decode cX12_judged 77 = .ok (.istore 5, 2) := by decide +kernel
theorem dX12_judged_79 : decode cX12_judged 79 = .ok (.iload 5, 2) := by decide +kernel
theorem dX12_judged_81 : decode cX12_judged 81 = .ok (.ifCond .ne 11, 3) := by decide +kernel
theorem dX12_judged_84 : decode cX12_judged 84 = .ok (.iload_n 2, 1) := by decide +kernel
theorem dX12_judged_85 : decode cX12_judged 85 = .ok (.ifCond .ge 7, 3) := by decide +kernel
theorem dX12_judged_88 : decode cX12_judged 88 = .ok (.iload_n 3, 1) := by decide +kernel
theorem dX12_judged_89 : decode cX12_judged 89 = .ok (.goto 4, 3) := by decide +kernel
theorem dX12_judged_92 : decode cX12_judged 92 = .ok (.iload_n 2, 1) := by decide +kernel
theorem dX12_judged_93 : decode cX12_judged 93 = .ok (.istore_n 2, 1) := by decide +kernel
theorem dX12_judged_94 : decode cX12_judged 94 = .ok (.iload 5, 2) := by decide +kernel
theorem dX12_judged_96 : decode cX12_judged 96 = .ok (.ifCond .eq 35, 3) := by decide +kernel
theorem dX12_judged_99 : decode cX12_judged 99 = .ok (.aload_n 0, 1) := by decide +kernel
theorem dX12_judged_100 : decode cX12_judged 100 = .ok (.sipush 4326, 3) := by decide +kernel
theorem dX12_judged_103 : decode cX12_judged 103 = .ok (.aload_n 0, 1) := by decide +kernel
theorem dX12_judged_104 : decode cX12_judged 104 = .ok (.getfield 84, 3) := by decide +kernel
theorem dX12_judged_107 : decode cX12_judged 107 = .ok (.iload 4, 2) := by decide +kernel
theorem dX12_judged_109 : decode cX12_judged 109 = .ok (.iaload, 1) := by decide +kernel
theorem dX12_judged_110 : decode cX12_judged 110 = .ok (.aload_n 0, 1) := by decide +kernel
theorem dX12_judged_111 : decode cX12_judged 111 = .ok (.getfield 84, 3) := by decide +kernel
theorem dX12_judged_114 : decode cX12_judged 114 = .ok (.iload 4, 2) := by decide +kernel
theorem dX12_judged_116 : decode cX12_judged 116 = .ok (.iconst 1, 1) := by decide +kernel
theorem dX12_judged_117 : decode cX12_judged 117 = .ok (.iadd, 1) := by decide +kernel
theorem dX12_judged_118 : decode cX12_judged 118 = .ok (.iaload, 1) := by decide +kernel
theorem dX12_judged_119 : decode cX12_judged 119 = .ok (.aload_n 0, 1) := by decide +kernel
theorem dX12_judged_120 : decode cX12_judged 120 = .ok (.getfield 84, 3) := by decide +kernel
theorem dX12_judged_123 : decode cX12_judged 123 = .ok (.iload 4, 2) := by decide +kernel
theorem dX12_judged_125 : decode cX12_judged 125 = .ok (.iconst 2, 1) := by decide +kernel
theorem dX12_judged_126 : decode cX12_judged 126 = .ok (.iadd, 1) := by decide +kernel
theorem dX12_judged_127 : decode cX12_judged 127 = .ok (.iaload, 1) := by decide +kernel
theorem dX12_judged_128 : decode cX12_judged 128 = .ok (.invokevirtual 410, 3) := by decide +kernel
theorem dX12_judged_131 : decode cX12_judged 131 = .ok (.iinc 3 1, 3) := by decide +kernel
theorem dX12_judged_134 : decode cX12_judged 134 = .ok (.goto (-106), 3) := by decide +kernel
theorem dX12_judged_137 : decode cX12_judged 137 = .ok (.iload_n 1, 1) := by decide +kernel
theorem dX12_judged_138 : decode cX12_judged 138 = .ok (.ifCond .ne 7, 3) := by decide +kernel
theorem dX12_judged_141 : decode cX12_judged 141 = .ok (.iload_n 2, 1) := by decide +kernel
theorem dX12_judged_142 : decode cX12_judged 142 = .ok (.goto 26, 3) := by decide +kernel
theorem dX12_judged_145 : decode cX12_judged 145 = .ok (.iload_n 1, 1) := by decide +kernel
theorem dX12_judged_146 : decode cX12_judged 146 = .ok (.iconst 1, 1) := by decide +kernel
theorem dX12_judged_147 : decode cX12_judged 147 = .ok (.if_icmp .ne 13, 3) := by decide +kernel
theorem dX12_judged_150 : decode cX12_judged 150 = .ok (.aload_n 0, 1) := by decide +kernel
theorem dX12_judged_151 : decode cX12_judged 151 = .ok (.sipush 4326, 3) := by decide +kernel
theorem dX12_judged_154 : decode cX12_judged 154 = .ok (.invokevirtual 417, 3) := by decide +kernel
theorem dX12_judged_157 : decode cX12_judged 157 = .ok (.goto 11, 3) := by decide +kernel
theorem dX12_judged_160 : decode cX12_judged 160 = .ok (.aload_n 0, 1) := by decide +kernel
theorem dX12_judged_161 : decode cX12_judged 161 = .ok (.getfield 93, 3) := by decide +kernel
theorem dX12_judged_164 : decode cX12_judged 164 = .ok (.sipush 4410, 3) := by decide +kernel
theorem dX12_judged_167 : decode cX12_judged 167 = .ok (.iaload, 1) := by decide +kernel
theorem dX12_judged_168 : decode cX12_judged 168 = .ok (.ireturn, 1) := by decide +kernel
theorem dX12_see_0 : decode cX12_see 0 = .ok (.aload_n 0, 1) := by decide +kernel
theorem dX12_see_1 : decode cX12_see 1 = .ok (.iconst 0, 1) := by decide +kernel
theorem dX12_see_2 : decode cX12_see 2 = .ok (.putfield 1, 3) := by decide +kernel
theorem dX12_see_5 : decode cX12_see 5 = .ok (.aload_n 0, 1) := by decide +kernel
theorem dX12_see_6 : decode cX12_see 6 = .ok (.iload_n 1, 1) := by decide +kernel
theorem dX12_see_7 : decode cX12_see 7 = .ok (.invokevirtual 289, 3) := by decide +kernel
theorem dX12_see_10 : decode cX12_see 10 = .ok (.ifCond .eq 26, 3) := by decide +kernel
theorem dX12_see_13 : decode cX12_see 13 = .ok (.iload_n 2, 1) := by decide +kernel
theorem dX12_see_14 : decode cX12_see 14 = .ok (.iconst 1, 1) := by decide +kernel
theorem dX12_see_15 : decode cX12_see 15 = .ok (.bipush 20, 2) := by decide +kernel
theorem dX12_see_17 : decode cX12_see 17 = .ok (.invokestatic 358, 3) := by decide +kernel
theorem dX12_see_20 : decode cX12_see 20 = .ok (.ifCond .eq 16, 3) := by decide +kernel
theorem dX12_see_23 : decode cX12_see 23 = .ok (.aload_n 0, 1) := by decide +kernel
theorem dX12_see_24 : decode cX12_see 24 = .ok (.getfield 93, 3) := by decide +kernel
theorem dX12_see_27 : decode cX12_see 27 = .ok (.sipush 181, 3) := by decide +kernel
theorem dX12_see_30 : decode cX12_see 30 = .ok (.iaload, 1) := by decide +kernel
theorem dX12_see_31 : decode cX12_see 31 = .ok (.bipush 8, 2) := by decide +kernel
theorem dX12_see_33 : decode cX12_see 33 = .ok (.if_icmp .ne 5, 3) := by decide +kernel
theorem dX12_see_36 : decode cX12_see 36 = .ok (.iconst 0, 1) := by decide +kernel
theorem dX12_see_37 : decode cX12_see 37 = .ok (.ireturn, 1) := by decide +kernel
theorem dX12_see_38 : decode cX12_see 38 = .ok (.sipush 182, 3) := by decide +kernel
theorem dX12_see_41 : decode cX12_see 41 = .ok (.iconst 3, 1) := by decide +kernel
theorem dX12_see_42 : decode cX12_see 42 = .ok (.aload_n 0, 1) := by decide +kernel
theorem dX12_see_43 : decode cX12_see 43 = .ok (.getfield 93, 3) := by decide +kernel
theorem dX12_see_46 : decode cX12_see 46 = .ok (.sipush 181, 3) := by decide +kernel
theorem dX12_see_49 : decode cX12_see 49 = .ok (.iaload, 1) := by decide +kernel
theorem dX12_see_50 : decode cX12_see 50 = .ok (.imul, 1) := by decide +kernel
theorem dX12_see_51 : decode cX12_see 51 = .ok (.iadd, 1) := by decide +kernel
theorem dX12_see_52 : decode cX12_see 52 = .ok (.istore 4, 2) := by decide +kernel
theorem dX12_see_54 : decode cX12_see 54 = .ok (.aload_n 0, 1) := by decide +kernel
theorem dX12_see_55 : decode cX12_see 55 = .ok (.getfield 93, 3) := by decide +kernel
theorem dX12_see_58 : decode cX12_see 58 = .ok (.iload 4, 2) := by decide +kernel
theorem dX12_see_60 : decode cX12_see 60 = .ok (.iload_n 1, 1) := by decide +kernel
theorem dX12_see_61 : decode cX12_see 61 = .ok (.iastore, 1) := by decide +kernel
theorem dX12_see_62 : decode cX12_see 62 = .ok (.aload_n 0, 1) := by decide +kernel
theorem dX12_see_63 : decode cX12_see 63 = .ok (.getfield 93, 3) := by decide +kernel
theorem dX12_see_66 : decode cX12_see 66 = .ok (.iload 4, 2) := by decide +kernel
theorem dX12_see_68 : decode cX12_see 68 = .ok (.iconst 1, 1) := by decide +kernel
theorem dX12_see_69 : decode cX12_see 69 = .ok (.iadd, 1) := by decide +kernel
theorem dX12_see_70 : decode cX12_see 70 = .ok (.iload_n 2, 1) := by decide +kernel
theorem dX12_see_71 : decode cX12_see 71 = .ok (.iastore, 1) := by decide +kernel
theorem dX12_see_72 : decode cX12_see 72 = .ok (.aload_n 0, 1) := by decide +kernel
theorem dX12_see_73 : decode cX12_see 73 = .ok (.getfield 93, 3) := by decide +kernel
theorem dX12_see_76 : decode cX12_see 76 = .ok (.iload 4, 2) := by decide +kernel
theorem dX12_see_78 : decode cX12_see 78 = .ok (.iconst 2, 1) := by decide +kernel
theorem dX12_see_79 : decode cX12_see 79 = .ok (.iadd, 1) := by decide +kernel
theorem dX12_see_80 : decode cX12_see 80 = .ok (.iload_n 3, 1) := by decide +kernel
theorem dX12_see_81 : decode cX12_see 81 = .ok (.ifCond .eq 7, 3) := by decide +kernel
theorem dX12_see_84 : decode cX12_see 84 = .ok (.iconst 1, 1) := by decide +kernel
theorem dX12_see_85 : decode cX12_see 85 = .ok (.goto 4, 3) := by decide +kernel
theorem dX12_see_88 : decode cX12_see 88 = .ok (.iconst 0, 1) := by decide +kernel
theorem dX12_see_89 : decode cX12_see 89 = .ok (.iastore, 1) := by decide +kernel
theorem dX12_see_90 : decode cX12_see 90 = .ok (.aload_n 0, 1) := by decide +kernel
theorem dX12_see_91 : decode cX12_see 91 = .ok (.getfield 93, 3) := by decide +kernel
theorem dX12_see_94 : decode cX12_see 94 = .ok (.sipush 181, 3) := by decide +kernel
theorem dX12_see_97 : decode cX12_see 97 = .ok (.dup2, 1) := by decide +kernel
theorem dX12_see_98 : decode cX12_see 98 = .ok (.iaload, 1) := by decide +kernel
theorem dX12_see_99 : decode cX12_see 99 = .ok (.iconst 1, 1) := by decide +kernel
theorem dX12_see_100 : decode cX12_see 100 = .ok (.iadd, 1) := by decide +kernel
theorem dX12_see_101 : decode cX12_see 101 = .ok (.iastore, 1) := by decide +kernel
theorem dX12_see_102 : decode cX12_see 102 = .ok (.iconst 1, 1) := by decide +kernel
theorem dX12_see_103 : decode cX12_see 103 = .ok (.ireturn, 1) := by decide +kernel
theorem dX12_isAsSeen_0 : decode cX12_isAsSeen 0 = .ok (.iconst 1, 1) := by decide +kernel
theorem dX12_isAsSeen_1 : decode cX12_isAsSeen 1 = .ok (.istore 4, 2) := by decide +kernel
theorem dX12_isAsSeen_3 : decode cX12_isAsSeen 3 = .ok (.iconst 0, 1) := by decide +kernel
theorem dX12_isAsSeen_4 : decode cX12_isAsSeen 4 = .ok (.istore 5, 2) := by decide +kernel
theorem dX12_isAsSeen_6 : decode cX12_isAsSeen 6 = .ok (.iload 5, 2) := by decide +kernel
theorem dX12_isAsSeen_8 : decode cX12_isAsSeen 8 = .ok (.aload_n 0, 1) := by decide +kernel
theorem dX12_isAsSeen_9 : decode cX12_isAsSeen 9 = .ok (.getfield 93, 3) := by decide +kernel
theorem dX12_isAsSeen_12 : decode cX12_isAsSeen 12 = .ok (.sipush 181, 3) := by decide +kernel
theorem dX12_isAsSeen_15 : decode cX12_isAsSeen 15 = .ok (.iaload, 1) := by decide +kernel
theorem dX12_isAsSeen_16 : decode cX12_isAsSeen 16 = .ok (.if_icmp .ge 86, 3) := by decide +kernel
theorem dX12_isAsSeen_19 : decode cX12_isAsSeen 19 = .ok (.sipush 182, 3) := by decide +kernel
theorem dX12_isAsSeen_22 : decode cX12_isAsSeen 22 = .ok (.iconst 3, 1) := by decide +kernel
theorem dX12_isAsSeen_23 : decode cX12_isAsSeen 23 = .ok (.iload 5, 2) := by decide +kernel
theorem dX12_isAsSeen_25 : decode cX12_isAsSeen 25 = .ok (.imul, 1) := by decide +kernel
theorem dX12_isAsSeen_26 : decode cX12_isAsSeen 26 = .ok (.iadd, 1) := by decide +kernel
theorem dX12_isAsSeen_27 : decode cX12_isAsSeen 27 = .ok (.istore 6, 2) := by decide +kernel
theorem dX12_isAsSeen_29 : decode cX12_isAsSeen 29 = .ok (.iload 4, 2) := by decide +kernel
theorem dX12_isAsSeen_31 : decode cX12_isAsSeen 31 = .ok (.ifCond .eq 62, 3) := by decide +kernel
theorem dX12_isAsSeen_34 : decode cX12_isAsSeen 34 = .ok (.aload_n 0, 1) := by decide +kernel
theorem dX12_isAsSeen_35 : decode cX12_isAsSeen 35 = .ok (.getfield 93, 3) := by decide +kernel
theorem dX12_isAsSeen_38 : decode cX12_isAsSeen 38 = .ok (.iload 6, 2) := by decide +kernel
theorem dX12_isAsSeen_40 : decode cX12_isAsSeen 40 = .ok (.iaload, 1) := by decide +kernel
theorem dX12_isAsSeen_41 : decode cX12_isAsSeen 41 = .ok (.iload_n 1, 1) := by decide +kernel
theorem dX12_isAsSeen_42 : decode cX12_isAsSeen 42 = .ok (.if_icmp .ne 47, 3) := by decide +kernel
theorem dX12_isAsSeen_45 : decode cX12_isAsSeen 45 = .ok (.aload_n 0, 1) := by decide +kernel
theorem dX12_isAsSeen_46 : decode cX12_isAsSeen 46 = .ok (.iload_n 2, 1) := by decide +kernel
theorem dX12_isAsSeen_47 : decode cX12_isAsSeen 47 = .ok (.iload_n 3, 1) := by decide +kernel
theorem dX12_isAsSeen_48 : decode cX12_isAsSeen 48 = .ok (.invokevirtual 321, 3) := by decide +kernel
theorem dX12_isAsSeen_51 : decode cX12_isAsSeen 51 = .ok (.aload_n 0, 1) := by decide +kernel
theorem dX12_isAsSeen_52 : decode cX12_isAsSeen 52 = .ok (.getfield 93, 3) := by decide +kernel
theorem dX12_isAsSeen_55 : decode cX12_isAsSeen 55 = .ok (.iload 6, 2) := by decide +kernel
theorem dX12_isAsSeen_57 : decode cX12_isAsSeen 57 = .ok (.iconst 1, 1) := by decide +kernel
theorem dX12_isAsSeen_58 : decode cX12_isAsSeen 58 = .ok (.iadd, 1) := by decide +kernel
theorem dX12_isAsSeen_59 : decode cX12_isAsSeen 59 = .ok (.iaload, 1) := by decide +kernel
theorem dX12_isAsSeen_60 : decode cX12_isAsSeen 60 = .ok (.if_icmp .lt 7, 3) := by decide +kernel
theorem dX12_isAsSeen_63 : decode cX12_isAsSeen 63 = .ok (.iconst 1, 1) := by decide +kernel
theorem dX12_isAsSeen_64 : decode cX12_isAsSeen 64 = .ok (.goto 4, 3) := by decide +kernel
theorem dX12_isAsSeen_67 : decode cX12_isAsSeen 67 = .ok (.iconst 0, 1) := by decide +kernel
theorem dX12_isAsSeen_68 : decode cX12_isAsSeen 68 = .ok (.aload_n 0, 1) := by decide +kernel
theorem dX12_isAsSeen_69 : decode cX12_isAsSeen 69 = .ok (.getfield 93, 3) := by decide +kernel
theorem dX12_isAsSeen_72 : decode cX12_isAsSeen 72 = .ok (.iload 6, 2) := by decide +kernel
theorem dX12_isAsSeen_74 : decode cX12_isAsSeen 74 = .ok (.iconst 2, 1) := by decide +kernel
theorem dX12_isAsSeen_75 : decode cX12_isAsSeen 75 = .ok (.iadd, 1) := by decide +kernel
theorem dX12_isAsSeen_76 : decode cX12_isAsSeen 76 = .ok (.iaload, 1) := by decide +kernel
theorem dX12_isAsSeen_77 : decode cX12_isAsSeen 77 = .ok (.iconst 1, 1) := by decide +kernel
theorem dX12_isAsSeen_78 : decode cX12_isAsSeen 78 = .ok (.if_icmp .ne 7, 3) := by decide +kernel
theorem dX12_isAsSeen_81 : decode cX12_isAsSeen 81 = .ok (.iconst 1, 1) := by decide +kernel
theorem dX12_isAsSeen_82 : decode cX12_isAsSeen 82 = .ok (.goto 4, 3) := by decide +kernel
theorem dX12_isAsSeen_85 : decode cX12_isAsSeen 85 = .ok (.iconst 0, 1) := by decide +kernel
theorem dX12_isAsSeen_86 : decode cX12_isAsSeen 86 = .ok (.if_icmp .ne 7, 3) := by decide +kernel
theorem dX12_isAsSeen_89 : decode cX12_isAsSeen 89 = .ok (.iconst 1, 1) := by decide +kernel
theorem dX12_isAsSeen_90 : decode cX12_isAsSeen 90 = .ok (.goto 4, 3) := by decide +kernel
theorem dX12_isAsSeen_93 : decode cX12_isAsSeen 93 = .ok (.iconst 0, 1) := by decide +kernel
theorem dX12_isAsSeen_94 : decode cX12_isAsSeen 94 = .ok (.istore 4, 2) := by decide +kernel
theorem dX12_isAsSeen_96 : decode cX12_isAsSeen 96 = .ok (.iinc 5 1, 3) := by decide +kernel
theorem dX12_isAsSeen_99 : decode cX12_isAsSeen 99 = .ok (.goto (-93), 3) := by decide +kernel
theorem dX12_isAsSeen_102 : decode cX12_isAsSeen 102 = .ok (.iload 4, 2) := by decide +kernel
theorem dX12_isAsSeen_104 : decode cX12_isAsSeen 104 = .ok (.ireturn, 1) := by decide +kernel
theorem dX12_fitting_0 : decode cX12_fitting 0 = .ok (.aload_n 0, 1) := by decide +kernel
theorem dX12_fitting_1 : decode cX12_fitting 1 = .ok (.iload_n 1, 1) := by decide +kernel
theorem dX12_fitting_2 : decode cX12_fitting 2 = .ok (.invokevirtual 334, 3) := by decide +kernel
theorem dX12_fitting_5 : decode cX12_fitting 5 = .ok (.iconst 0, 1) := by decide +kernel
theorem dX12_fitting_6 : decode cX12_fitting 6 = .ok (.istore_n 2, 1) := by decide +kernel
theorem dX12_fitting_7 : decode cX12_fitting 7 = .ok (.iload_n 2, 1) := by decide +kernel
theorem dX12_fitting_8 : decode cX12_fitting 8 = .ok (.bipush 20, 2) := by decide +kernel
theorem dX12_fitting_10 : decode cX12_fitting 10 = .ok (.if_icmp .gt 16, 3) := by decide +kernel
theorem dX12_fitting_13 : decode cX12_fitting 13 = .ok (.aload_n 0, 1) := by decide +kernel
theorem dX12_fitting_14 : decode cX12_fitting 14 = .ok (.getfield 151, 3) := by decide +kernel
theorem dX12_fitting_17 : decode cX12_fitting 17 = .ok (.iload_n 2, 1) := by decide +kernel
theorem dX12_fitting_18 : decode cX12_fitting 18 = .ok (.iconst 0, 1) := by decide +kernel
theorem dX12_fitting_19 : decode cX12_fitting 19 = .ok (.iastore, 1) := by decide +kernel
theorem dX12_fitting_20 : decode cX12_fitting 20 = .ok (.iinc 2 1, 3) := by decide +kernel
theorem dX12_fitting_23 : decode cX12_fitting 23 = .ok (.goto (-16), 3) := by decide +kernel
theorem dX12_fitting_26 : decode cX12_fitting 26 = .ok (.iconst 0, 1) := by decide +kernel
theorem dX12_fitting_27 : decode cX12_fitting 27 = .ok (.istore_n 2, 1) := by decide +kernel
theorem dX12_fitting_28 : decode cX12_fitting 28 = .ok (.iconst 0, 1) := by decide +kernel
theorem dX12_fitting_29 : decode cX12_fitting 29 = .ok (.istore_n 3, 1) := by decide +kernel
theorem dX12_fitting_30 : decode cX12_fitting 30 = .ok (.iload_n 3, 1) := by decide +kernel
theorem dX12_fitting_31 : decode cX12_fitting 31 = .ok (.aload_n 0, 1) := by decide +kernel
theorem dX12_fitting_32 : decode cX12_fitting 32 = .ok (.getfield 304, 3) := by decide +kernel
theorem dX12_fitting_35 : decode cX12_fitting 35 = .ok (.if_icmp .ge 59, 3) := by decide +kernel
theorem dX12_fitting_38 : decode cX12_fitting 38 = .ok (.iload_n 3, 1) := by decide +kernel
theorem dX12_fitting_39 : decode cX12_fitting 39 = .ok (.iconst 1, 1) := by decide +kernel
theorem dX12_fitting_40 : decode cX12_fitting 40 = .ok (.iadd, 1) := by decide +kernel
theorem dX12_fitting_41 : decode cX12_fitting 41 = .ok (.istore 4, 2) := by decide +kernel
theorem dX12_fitting_43 : decode cX12_fitting 43 = .ok (.iload 4, 2) := by decide +kernel
theorem dX12_fitting_45 : decode cX12_fitting 45 = .ok (.aload_n 0, 1) := by decide +kernel
theorem dX12_fitting_46 : decode cX12_fitting 46 = .ok (.getfield 304, 3) := by decide +kernel
theorem dX12_fitting_49 : decode cX12_fitting 49 = .ok (.if_icmp .gt 39, 3) := by decide +kernel
theorem dX12_fitting_52 : decode cX12_fitting 52 = .ok (.aload_n 0, 1) := by decide +kernel
theorem dX12_fitting_53 : decode cX12_fitting 53 = .ok (.iload_n 1, 1) := by decide +kernel
theorem dX12_fitting_54 : decode cX12_fitting 54 = .ok (.iload_n 3, 1) := by decide +kernel
theorem dX12_fitting_55 : decode cX12_fitting 55 = .ok (.iload 4, 2) := by decide +kernel
theorem dX12_fitting_57 : decode cX12_fitting 57 = .ok (.invokevirtual 420, 3) := by decide +kernel
theorem dX12_fitting_60 : decode cX12_fitting 60 = .ok (.ifCond .eq 22, 3) := by decide +kernel
theorem dX12_fitting_63 : decode cX12_fitting 63 = .ok (.aload_n 0, 1) := by decide +kernel
theorem dX12_fitting_64 : decode cX12_fitting 64 = .ok (.getfield 151, 3) := by decide +kernel
theorem dX12_fitting_67 : decode cX12_fitting 67 = .ok (.aload_n 0, 1) := by decide +kernel
theorem dX12_fitting_68 : decode cX12_fitting 68 = .ok (.iload_n 3, 1) := by decide +kernel
theorem dX12_fitting_69 : decode cX12_fitting 69 = .ok (.iload 4, 2) := by decide +kernel
theorem dX12_fitting_71 : decode cX12_fitting 71 = .ok (.invokevirtual 321, 3) := by decide +kernel
theorem dX12_fitting_74 : decode cX12_fitting 74 = .ok (.dup2, 1) := by decide +kernel
theorem dX12_fitting_75 : decode cX12_fitting 75 = .ok (.iaload, 1) := by decide +kernel
theorem dX12_fitting_76 : decode cX12_fitting 76 = .ok (.iconst 1, 1) := by decide +kernel
theorem dX12_fitting_77 : decode cX12_fitting 77 = .ok (.iadd, 1) := by decide +kernel
theorem dX12_fitting_78 : decode cX12_fitting 78 = .ok (.iastore, 1) := by decide +kernel
theorem dX12_fitting_79 : decode cX12_fitting 79 = .ok (.iinc 2 1, 3) := by decide +kernel
theorem dX12_fitting_82 : decode cX12_fitting 82 = .ok (.iinc 4 1, 3) := by decide +kernel
theorem dX12_fitting_85 : decode cX12_fitting 85 = .ok (.goto (-42), 3) := by decide +kernel
theorem dX12_fitting_88 : decode cX12_fitting 88 = .ok (.iinc 3 1, 3) := by decide +kernel
theorem dX12_fitting_91 : decode cX12_fitting 91 = .ok (.goto (-61), 3) := by decide +kernel
theorem dX12_fitting_94 : decode cX12_fitting 94 = .ok (.iload_n 2, 1) := by decide +kernel
theorem dX12_fitting_95 : decode cX12_fitting 95 = .ok (.ireturn, 1) := by decide +kernel
theorem dX12_fits_0 : decode cX12_fits 0 = .ok (.aload_n 0, 1) := by decide +kernel
theorem dX12_fits_1 : decode cX12_fits 1 = .ok (.iconst 0, 1) := by decide +kernel
theorem dX12_fits_2 : decode cX12_fits 2 = .ok (.putfield 1, 3) := by decide +kernel
theorem dX12_fits_5 : decode cX12_fits 5 = .ok (.aload_n 0, 1) := by decide +kernel
theorem dX12_fits_6 : decode cX12_fits 6 = .ok (.iload_n 1, 1) := by decide +kernel
theorem dX12_fits_7 : decode cX12_fits 7 = .ok (.invokevirtual 289, 3) := by decide +kernel
theorem dX12_fits_10 : decode cX12_fits 10 = .ok (.ifCond .eq 11, 3) := by decide +kernel
theorem dX12_fits_13 : decode cX12_fits 13 = .ok (.aload_n 0, 1) := by decide +kernel
theorem dX12_fits_14 : decode cX12_fits 14 = .ok (.iload_n 1, 1) := by decide +kernel
theorem dX12_fits_15 : decode cX12_fits 15 = .ok (.invokevirtual 423, 3) := by decide +kernel
theorem dX12_fits_18 : decode cX12_fits 18 = .ok (.goto 4, 3) := by decide +kernel
theorem dX12_fits_21 : decode cX12_fits 21 = .ok (.iconst (-1), 1) := by decide +kernel
theorem dX12_fits_22 : decode cX12_fits 22 = .ok (.ireturn, 1) := by decide +kernel
theorem dX12_first_0 : decode cX12_first 0 = .ok (.aload_n 0, 1) := by decide +kernel
theorem dX12_first_1 : decode cX12_first 1 = .ok (.iconst 0, 1) := by decide +kernel
theorem dX12_first_2 : decode cX12_first 2 = .ok (.putfield 1, 3) := by decide +kernel
theorem dX12_first_5 : decode cX12_first 5 = .ok (.aload_n 0, 1) := by decide +kernel
theorem dX12_first_6 : decode cX12_first 6 = .ok (.iload_n 1, 1) := by decide +kernel
theorem dX12_first_7 : decode cX12_first 7 = .ok (.invokevirtual 289, 3) := by decide +kernel
theorem dX12_first_10 : decode cX12_first 10 = .ok (.ifCond .ne 5, 3) := by decide +kernel
theorem dX12_first_13 : decode cX12_first 13 = .ok (.iconst (-1), 1) := by decide +kernel
theorem dX12_first_14 : decode cX12_first 14 = .ok (.ireturn, 1) := by decide +kernel
theorem dX12_first_15 : decode cX12_first 15 = .ok (.aload_n 0, 1) := by decide +kernel
theorem dX12_first_16 : decode cX12_first 16 = .ok (.iload_n 1, 1) := by decide +kernel
theorem dX12_first_17 : decode cX12_first 17 = .ok (.invokevirtual 334, 3) := by decide +kernel
theorem dX12_first_20 : decode cX12_first 20 = .ok (.iconst 0, 1) := by decide +kernel
theorem dX12_first_21 : decode cX12_first 21 = .ok (.istore_n 2, 1) := by decide +kernel
theorem dX12_first_22 : decode cX12_first 22 = .ok (.iload_n 2, 1) := by decide +kernel
theorem dX12_first_23 : decode cX12_first 23 = .ok (.aload_n 0, 1) := by decide +kernel
theorem dX12_first_24 : decode cX12_first 24 = .ok (.getfield 304, 3) := by decide +kernel
theorem dX12_first_27 : decode cX12_first 27 = .ok (.if_icmp .ge 44, 3) := by decide +kernel
theorem dX12_first_30 : decode cX12_first 30 = .ok (.iload_n 2, 1) := by decide +kernel
theorem dX12_first_31 : decode cX12_first 31 = .ok (.iconst 1, 1) := by decide +kernel
theorem dX12_first_32 : decode cX12_first 32 = .ok (.iadd, 1) := by decide +kernel
theorem dX12_first_33 : decode cX12_first 33 = .ok (.istore_n 3, 1) := by decide +kernel
theorem dX12_first_34 : decode cX12_first 34 = .ok (.iload_n 3, 1) := by decide +kernel
theorem dX12_first_35 : decode cX12_first 35 = .ok (.aload_n 0, 1) := by decide +kernel
theorem dX12_first_36 : decode cX12_first 36 = .ok (.getfield 304, 3) := by decide +kernel
theorem dX12_first_39 : decode cX12_first 39 = .ok (.if_icmp .gt 26, 3) := by decide +kernel
theorem dX12_first_42 : decode cX12_first 42 = .ok (.aload_n 0, 1) := by decide +kernel
theorem dX12_first_43 : decode cX12_first 43 = .ok (.iload_n 1, 1) := by decide +kernel
theorem dX12_first_44 : decode cX12_first 44 = .ok (.iload_n 2, 1) := by decide +kernel
theorem dX12_first_45 : decode cX12_first 45 = .ok (.iload_n 3, 1) := by decide +kernel
theorem dX12_first_46 : decode cX12_first 46 = .ok (.invokevirtual 420, 3) := by decide +kernel
theorem dX12_first_49 : decode cX12_first 49 = .ok (.ifCond .eq 10, 3) := by decide +kernel
theorem dX12_first_52 : decode cX12_first 52 = .ok (.bipush 32, 2) := by decide +kernel
theorem dX12_first_54 : decode cX12_first 54 = .ok (.iload_n 2, 1) := by decide +kernel
theorem dX12_first_55 : decode cX12_first 55 = .ok (.imul, 1) := by decide +kernel
theorem dX12_first_56 : decode cX12_first 56 = .ok (.iload_n 3, 1) := by decide +kernel
theorem dX12_first_57 : decode cX12_first 57 = .ok (.iadd, 1) := by decide +kernel
theorem dX12_first_58 : decode cX12_first 58 = .ok (.ireturn, 1) := by decide +kernel
theorem dX12_first_59 : decode cX12_first 59 = .ok (.iinc 3 1, 3) := by decide +kernel
theorem dX12_first_62 : decode cX12_first 62 = .ok (.goto (-28), 3) := by decide +kernel
theorem dX12_first_65 : decode cX12_first 65 = .ok (.iinc 2 1, 3) := by decide +kernel
theorem dX12_first_68 : decode cX12_first 68 = .ok (.goto (-46), 3) := by decide +kernel
theorem dX12_first_71 : decode cX12_first 71 = .ok (.iconst (-1), 1) := by decide +kernel
theorem dX12_first_72 : decode cX12_first 72 = .ok (.ireturn, 1) := by decide +kernel
theorem dX12_ask_0 : decode cX12_ask 0 = .ok (.aload_n 0, 1) := by decide +kernel
theorem dX12_ask_1 : decode cX12_ask 1 = .ok (.iconst 0, 1) := by decide +kernel
theorem dX12_ask_2 : decode cX12_ask 2 = .ok (.putfield 1, 3) := by decide +kernel
theorem dX12_ask_5 : decode cX12_ask 5 = .ok (.aload_n 0, 1) := by decide +kernel
theorem dX12_ask_6 : decode cX12_ask 6 = .ok (.iload_n 1, 1) := by decide +kernel
theorem dX12_ask_7 : decode cX12_ask 7 = .ok (.invokevirtual 289, 3) := by decide +kernel
theorem dX12_ask_10 : decode cX12_ask 10 = .ok (.ifCond .eq 11, 3) := by decide +kernel
theorem dX12_ask_13 : decode cX12_ask 13 = .ok (.aload_n 0, 1) := by decide +kernel
theorem dX12_ask_14 : decode cX12_ask 14 = .ok (.iload_n 1, 1) := by decide +kernel
theorem dX12_ask_15 : decode cX12_ask 15 = .ok (.invokevirtual 423, 3) := by decide +kernel
theorem dX12_ask_18 : decode cX12_ask 18 = .ok (.goto 4, 3) := by decide +kernel
theorem dX12_ask_21 : decode cX12_ask 21 = .ok (.iconst 0, 1) := by decide +kernel
theorem dX12_ask_22 : decode cX12_ask 22 = .ok (.istore_n 2, 1) := by decide +kernel
theorem dX12_ask_23 : decode cX12_ask 23 = .ok (.iconst (-1), 1) := by decide +kernel
theorem dX12_ask_24 : decode cX12_ask 24 = .ok (.istore_n 3, 1) := by decide +kernel
theorem dX12_ask_25 : decode cX12_ask 25 = .ok (.iload_n 2, 1) := by decide +kernel
theorem dX12_ask_26 : decode cX12_ask 26 = .ok (.istore 4, 2) := by decide +kernel
theorem dX12_ask_28 : decode cX12_ask 28 = .ok (.iconst 0, 1) := by decide +kernel
theorem dX12_ask_29 : decode cX12_ask 29 = .ok (.istore 5, 2) := by decide +kernel
theorem dX12_ask_31 : decode cX12_ask 31 = .ok (.iconst 1, 1) := by decide +kernel
theorem dX12_ask_32 : decode cX12_ask 32 = .ok (.istore 6, 2) := by decide +kernel
theorem dX12_ask_34 : decode cX12_ask 34 = .ok (.iload 6, 2) := by decide +kernel
theorem dX12_ask_36 : decode cX12_ask 36 = .ok (.bipush 20, 2) := by decide +kernel
theorem dX12_ask_38 : decode cX12_ask 38 = .ok (.if_icmp .gt 81, 3) := by decide +kernel
theorem dX12_ask_41 : decode cX12_ask 41 = .ok (.iload 5, 2) := by decide +kernel
theorem dX12_ask_43 : decode cX12_ask 43 = .ok (.aload_n 0, 1) := by decide +kernel
theorem dX12_ask_44 : decode cX12_ask 44 = .ok (.getfield 151, 3) := by decide +kernel
theorem dX12_ask_47 : decode cX12_ask 47 = .ok (.iload 6, 2) := by decide +kernel
theorem dX12_ask_49 : decode cX12_ask 49 = .ok (.iconst 1, 1) := by decide +kernel
theorem dX12_ask_50 : decode cX12_ask 50 = .ok (.isub, 1) := by decide +kernel
theorem dX12_ask_51 : decode cX12_ask 51 = .ok (.iaload, 1) := by decide +kernel
theorem dX12_ask_52 : decode cX12_ask 52 = .ok (.iadd, 1) := by decide +kernel
theorem dX12_ask_53 : decode cX12_ask 53 = .ok (.istore 5, 2) := by decide +kernel
theorem dX12_ask_55 : decode cX12_ask 55 = .ok (.iload 5, 2) := by decide +kernel
theorem dX12_ask_57 : decode cX12_ask 57 = .ok (.iload_n 2, 1) := by decide +kernel
theorem dX12_ask_58 : decode cX12_ask 58 = .ok (.iload 5, 2) := by decide +kernel
theorem dX12_ask_60 : decode cX12_ask 60 = .ok (.isub, 1) := by decide +kernel
theorem dX12_ask_61 : decode cX12_ask 61 = .ok (.if_icmp .le 8, 3) := by decide +kernel
theorem dX12_ask_64 : decode cX12_ask 64 = .ok (.iload 5, 2) := by decide +kernel
theorem dX12_ask_66 : decode cX12_ask 66 = .ok (.goto 7, 3) := by decide +kernel
theorem dX12_ask_69 : decode cX12_ask 69 = .ok (.iload_n 2, 1) := by decide +kernel
theorem dX12_ask_70 : decode cX12_ask 70 = .ok (.iload 5, 2) := by decide +kernel
theorem dX12_ask_72 : decode cX12_ask 72 = .ok (.isub, 1) := by decide +kernel
theorem dX12_ask_73 : decode cX12_ask 73 = .ok (.istore 7, 2) := by decide +kernel
theorem dX12_ask_75 : decode cX12_ask 75 = .ok (.aload_n 0, 1) := by decide +kernel
theorem dX12_ask_76 : decode cX12_ask 76 = .ok (.iload_n 1, 1) := by decide +kernel
theorem dX12_ask_77 : decode cX12_ask 77 = .ok (.invokevirtual 289, 3) := by decide +kernel
theorem dX12_ask_80 : decode cX12_ask 80 = .ok (.ifCond .eq 15, 3) := by decide +kernel
theorem dX12_ask_83 : decode cX12_ask 83 = .ok (.iload 7, 2) := by decide +kernel
theorem dX12_ask_85 : decode cX12_ask 85 = .ok (.iload 4, 2) := by decide +kernel
theorem dX12_ask_87 : decode cX12_ask 87 = .ok (.if_icmp .ge 8, 3) := by decide +kernel
theorem dX12_ask_90 : decode cX12_ask 90 = .ok (.iload 6, 2) := by decide +kernel
theorem dX12_ask_92 : decode cX12_ask 92 = .ok (.goto 4, 3) := by decide +kernel
theorem dX12_ask_95 : decode cX12_ask 95 = .ok (.iload_n 3, 1) := by decide +kernel
theorem dX12_ask_96 : decode cX12_ask 96 = .ok (.istore_n 3, 1) := by decide +kernel
theorem dX12_ask_97 : decode cX12_ask 97 = .ok (.iload 7, 2) := by decide +kernel
theorem dX12_ask_99 : decode cX12_ask 99 = .ok (.iload 4, 2) := by decide +kernel
theorem dX12_ask_101 : decode cX12_ask 101 = .ok (.if_icmp .ge 8, 3) := by decide +kernel
theorem dX12_ask_104 : decode cX12_ask 104 = .ok (.iload 7, 2) := by decide +kernel
theorem dX12_ask_106 : decode cX12_ask 106 = .ok (.goto 5, 3) := by decide +kernel
theorem dX12_ask_109 : decode cX12_ask 109 = .ok (.iload 4, 2) := by decide +kernel
theorem dX12_ask_111 : decode cX12_ask 111 = .ok (.istore 4, 2) := by decide +kernel
theorem dX12_ask_113 : decode cX12_ask 113 = .ok (.iinc 6 1, 3) := by decide +kernel
theorem dX12_ask_116 : decode cX12_ask 116 = .ok (.goto (-82), 3) := by decide +kernel
theorem dX12_ask_119 : decode cX12_ask 119 = .ok (.iload_n 3, 1) := by decide +kernel
theorem dX12_ask_120 : decode cX12_ask 120 = .ok (.ireturn, 1) := by decide +kernel
theorem dX12_draw_0 : decode cX12_draw 0 = .ok (.aload_n 0, 1) := by decide +kernel
theorem dX12_draw_1 : decode cX12_draw 1 = .ok (.aload_n 0, 1) := by decide +kernel
theorem dX12_draw_2 : decode cX12_draw 2 = .ok (.getfield 426, 3) := by decide +kernel
theorem dX12_draw_5 : decode cX12_draw 5 = .ok (.ldc2_w 430, 3) := by decide +kernel
theorem dX12_draw_8 : decode cX12_draw 8 = .ok (.lmul, 1) := by decide +kernel
theorem dX12_draw_9 : decode cX12_draw 9 = .ok (.ldc2_w 432, 3) := by decide +kernel
theorem dX12_draw_12 : decode cX12_draw 12 = .ok (.ladd, 1) := by decide +kernel
theorem dX12_draw_13 : decode cX12_draw 13 = .ok (.ldc2_w 434, 3) := by decide +kernel
theorem dX12_draw_16 : decode cX12_draw 16 = .ok (.lrem, 1) := by decide +kernel
theorem dX12_draw_17 : decode cX12_draw 17 = .ok (.putfield 426, 3) := by decide +kernel
theorem dX12_draw_20 : decode cX12_draw 20 = .ok (.aload_n 0, 1) := by decide +kernel
theorem dX12_draw_21 : decode cX12_draw 21 = .ok (.getfield 426, 3) := by decide +kernel
theorem dX12_draw_24 : decode cX12_draw 24 = .ok (.ldc2_w 436, 3) := by decide +kernel
theorem dX12_draw_27 : decode cX12_draw 27 = .ok (.ldiv, 1) := by decide +kernel
theorem dX12_draw_28 : decode cX12_draw 28 = .ok (.iload_n 1, 1) := by decide +kernel
theorem dX12_draw_29 : decode cX12_draw 29 = .ok (.i2l, 1) := by decide +kernel
theorem dX12_draw_30 : decode cX12_draw 30 = .ok (.lrem, 1) := by decide +kernel
theorem dX12_draw_31 : decode cX12_draw 31 = .ok (.l2i, 1) := by decide +kernel
theorem dX12_draw_32 : decode cX12_draw 32 = .ok (.ireturn, 1) := by decide +kernel
theorem dX12_drawn_0 : decode cX12_drawn 0 = .ok (.aload_n 0, 1) := by decide +kernel
theorem dX12_drawn_1 : decode cX12_drawn 1 = .ok (.iconst 0, 1) := by decide +kernel
theorem dX12_drawn_2 : decode cX12_drawn 2 = .ok (.putfield 1, 3) := by decide +kernel
theorem dX12_drawn_5 : decode cX12_drawn 5 = .ok (.iload_n 1, 1) := by decide +kernel
theorem dX12_drawn_6 : decode cX12_drawn 6 = .ok (.iconst 0, 1) := by decide +kernel
theorem dX12_drawn_7 : decode cX12_drawn 7 = .ok (.sipush 9999, 3) := by decide +kernel
theorem dX12_drawn_10 : decode cX12_drawn 10 = .ok (.invokestatic 358, 3) := by decide +kernel
theorem dX12_drawn_13 : decode cX12_drawn 13 = .ok (.ifCond .eq 33, 3) := by decide +kernel
theorem dX12_drawn_16 : decode cX12_drawn 16 = .ok (.iload_n 2, 1) := by decide +kernel
theorem dX12_drawn_17 : decode cX12_drawn 17 = .ok (.iconst 1, 1) := by decide +kernel
theorem dX12_drawn_18 : decode cX12_drawn 18 = .ok (.bipush 20, 2) := by decide +kernel
theorem dX12_drawn_20 : decode cX12_drawn 20 = .ok (.invokestatic 358, 3) := by decide +kernel
theorem dX12_drawn_23 : decode cX12_drawn 23 = .ok (.ifCond .eq 23, 3) := by decide +kernel
theorem dX12_drawn_26 : decode cX12_drawn 26 = .ok (.iload_n 3, 1) := by decide +kernel
theorem dX12_drawn_27 : decode cX12_drawn 27 = .ok (.iconst 1, 1) := by decide +kernel
theorem dX12_drawn_28 : decode cX12_drawn 28 = .ok (.bipush 100, 2) := by decide +kernel
theorem dX12_drawn_30 : decode cX12_drawn 30 = .ok (.invokestatic 358, 3) := by decide +kernel
theorem dX12_drawn_33 : decode cX12_drawn 33 = .ok (.ifCond .eq 13, 3) := by decide +kernel
theorem dX12_drawn_36 : decode cX12_drawn 36 = .ok (.iload 4, 2) := by decide +kernel
theorem dX12_drawn_38 : decode cX12_drawn 38 = .ok (.iconst 0, 1) := by decide +kernel
theorem dX12_drawn_39 : decode cX12_drawn 39 = .ok (.iconst 2, 1) := by decide +kernel
theorem dX12_drawn_40 : decode cX12_drawn 40 = .ok (.invokestatic 358, 3) := by decide +kernel
theorem dX12_drawn_43 : decode cX12_drawn 43 = .ok (.ifCond .ne 5, 3) := by decide +kernel
theorem dX12_drawn_46 : decode cX12_drawn 46 = .ok (.iconst (-1), 1) := by decide +kernel
theorem dX12_drawn_47 : decode cX12_drawn 47 = .ok (.ireturn, 1) := by decide +kernel
theorem dX12_drawn_48 : decode cX12_drawn 48 = .ok (.aload_n 0, 1) := by decide +kernel
theorem dX12_drawn_49 : decode cX12_drawn 49 = .ok (.iload_n 1, 1) := by decide +kernel
theorem dX12_drawn_50 : decode cX12_drawn 50 = .ok (.i2l, 1) := by decide +kernel
theorem dX12_drawn_51 : decode cX12_drawn 51 = .ok (.putfield 426, 3) := by decide +kernel
theorem dX12_drawn_54 : decode cX12_drawn 54 = .ok (.aload_n 0, 1) := by decide +kernel
theorem dX12_drawn_55 : decode cX12_drawn 55 = .ok (.iconst 0, 1) := by decide +kernel
theorem dX12_drawn_56 : decode cX12_drawn 56 = .ok (.putfield 301, 3) := by decide +kernel
theorem dX12_drawn_59 : decode cX12_drawn 59 = .ok (.aload_n 0, 1) := by decide +kernel
theorem dX12_drawn_60 : decode cX12_drawn 60 = .ok (.iload_n 2, 1) := by decide +kernel
theorem dX12_drawn_61 : decode cX12_drawn 61 = .ok (.putfield 304, 3) := by decide +kernel
theorem dX12_drawn_64 : decode cX12_drawn 64 = .ok (.iconst 0, 1) := by decide +kernel
theorem dX12_drawn_65 : decode cX12_drawn 65 = .ok (.istore 5, 2) := by decide +kernel
theorem dX12_drawn_67 : decode cX12_drawn 67 = .ok (.iload 5, 2) := by decide +kernel
theorem dX12_drawn_69 : decode cX12_drawn 69 = .ok (.iload_n 2, 1) := by decide +kernel
theorem dX12_drawn_70 : decode cX12_drawn 70 = .ok (.if_icmp .ge 29, 3) := by decide +kernel
theorem dX12_drawn_73 : decode cX12_drawn 73 = .ok (.aload_n 0, 1) := by decide +kernel
theorem dX12_drawn_74 : decode cX12_drawn 74 = .ok (.getfield 100, 3) := by decide +kernel
theorem dX12_drawn_77 : decode cX12_drawn 77 = .ok (.iload 5, 2) := by decide +kernel
theorem dX12_drawn_79 : decode cX12_drawn 79 = .ok (.aload_n 0, 1) := by decide +kernel
theorem dX12_drawn_80 : decode cX12_drawn 80 = .ok (.aload_n 0, 1) := by decide +kernel
theorem dX12_drawn_81 : decode cX12_drawn 81 = .ok (.iload_n 3, 1) := by decide +kernel
theorem dX12_drawn_82 : decode cX12_drawn 82 = .ok (.invokevirtual 438, 3) := by decide +kernel
theorem dX12_drawn_85 : decode cX12_drawn 85 = .ok (.iload 5, 2) := by decide +kernel
theorem dX12_drawn_87 : decode cX12_drawn 87 = .ok (.iload_n 2, 1) := by decide +kernel
theorem dX12_drawn_88 : decode cX12_drawn 88 = .ok (.iconst 0, 1) := by decide +kernel
theorem dX12_drawn_89 : decode cX12_drawn 89 = .ok (.invokevirtual 310, 3) := by decide +kernel
theorem dX12_drawn_92 : decode cX12_drawn 92 = .ok (.iastore, 1) := by decide +kernel
theorem dX12_drawn_93 : decode cX12_drawn 93 = .ok (.iinc 5 1, 3) := by decide +kernel
theorem dX12_drawn_96 : decode cX12_drawn 96 = .ok (.goto (-29), 3) := by decide +kernel
theorem dX12_drawn_99 : decode cX12_drawn 99 = .ok (.aload_n 0, 1) := by decide +kernel
theorem dX12_drawn_100 : decode cX12_drawn 100 = .ok (.invokevirtual 327, 3) := by decide +kernel
theorem dX12_drawn_103 : decode cX12_drawn 103 = .ok (.iload 4, 2) := by decide +kernel
theorem dX12_drawn_105 : decode cX12_drawn 105 = .ok (.iconst 2, 1) := by decide +kernel
theorem dX12_drawn_106 : decode cX12_drawn 106 = .ok (.if_icmp .ge 24, 3) := by decide +kernel
theorem dX12_drawn_109 : decode cX12_drawn 109 = .ok (.iload 4, 2) := by decide +kernel
theorem dX12_drawn_111 : decode cX12_drawn 111 = .ok (.ifCond .ne 12, 3) := by decide +kernel
theorem dX12_drawn_114 : decode cX12_drawn 114 = .ok (.aload_n 0, 1) := by decide +kernel
theorem dX12_drawn_115 : decode cX12_drawn 115 = .ok (.iconst 0, 1) := by decide +kernel
theorem dX12_drawn_116 : decode cX12_drawn 116 = .ok (.iload_n 2, 1) := by decide +kernel
theorem dX12_drawn_117 : decode cX12_drawn 117 = .ok (.invokevirtual 321, 3) := by decide +kernel
theorem dX12_drawn_120 : decode cX12_drawn 120 = .ok (.goto 9, 3) := by decide +kernel
theorem dX12_drawn_123 : decode cX12_drawn 123 = .ok (.aload_n 0, 1) := by decide +kernel
theorem dX12_drawn_124 : decode cX12_drawn 124 = .ok (.iconst 0, 1) := by decide +kernel
theorem dX12_drawn_125 : decode cX12_drawn 125 = .ok (.iload_n 2, 1) := by decide +kernel
theorem dX12_drawn_126 : decode cX12_drawn 126 = .ok (.invokevirtual 340, 3) := by decide +kernel
theorem dX12_drawn_129 : decode cX12_drawn 129 = .ok (.ireturn, 1) := by decide +kernel
theorem dX12_drawn_130 : decode cX12_drawn 130 = .ok (.iconst 0, 1) := by decide +kernel
theorem dX12_drawn_131 : decode cX12_drawn 131 = .ok (.istore 5, 2) := by decide +kernel
theorem dX12_drawn_133 : decode cX12_drawn 133 = .ok (.iconst 0, 1) := by decide +kernel
theorem dX12_drawn_134 : decode cX12_drawn 134 = .ok (.istore 6, 2) := by decide +kernel
theorem dX12_drawn_136 : decode cX12_drawn 136 = .ok (.iload 6, 2) := by decide +kernel
theorem dX12_drawn_138 : decode cX12_drawn 138 = .ok (.iload_n 2, 1) := by decide +kernel
theorem dX12_drawn_139 : decode cX12_drawn 139 = .ok (.if_icmp .ge 28, 3) := by decide +kernel
theorem dX12_drawn_142 : decode cX12_drawn 142 = .ok (.iload 5, 2) := by decide +kernel
theorem dX12_drawn_144 : decode cX12_drawn 144 = .ok (.aload_n 0, 1) := by decide +kernel
theorem dX12_drawn_145 : decode cX12_drawn 145 = .ok (.iload 6, 2) := by decide +kernel
theorem dX12_drawn_147 : decode cX12_drawn 147 = .ok (.invokevirtual 355, 3) := by decide +kernel
theorem dX12_drawn_150 : decode cX12_drawn 150 = .ok (.ifCond .lt 7, 3) := by decide +kernel
theorem dX12_drawn_153 : decode cX12_drawn 153 = .ok (.iconst 1, 1) := by decide +kernel
theorem dX12_drawn_154 : decode cX12_drawn 154 = .ok (.goto 4, 3) := by decide +kernel
theorem dX12_drawn_157 : decode cX12_drawn 157 = .ok (.iconst 0, 1) := by decide +kernel
theorem dX12_drawn_158 : decode cX12_drawn 158 = .ok (.iadd, 1) := by decide +kernel
theorem dX12_drawn_159 : decode cX12_drawn 159 = .ok (.istore 5, 2) := by decide +kernel
theorem dX12_drawn_161 : decode cX12_drawn 161 = .ok (.iinc 6 1, 3) := by decide +kernel
theorem dX12_drawn_164 : decode cX12_drawn 164 = .ok (.goto (-28), 3) := by decide +kernel
theorem dX12_drawn_167 : decode cX12_drawn 167 = .ok (.iload 5, 2) := by decide +kernel
theorem dX12_drawn_169 : decode cX12_drawn 169 = .ok (.ireturn, 1) := by decide +kernel
theorem dX12_mark_0 : decode cX12_mark 0 = .ok (.aload_n 0, 1) := by decide +kernel
theorem dX12_mark_1 : decode cX12_mark 1 = .ok (.iconst 0, 1) := by decide +kernel
theorem dX12_mark_2 : decode cX12_mark 2 = .ok (.putfield 1, 3) := by decide +kernel
theorem dX12_mark_5 : decode cX12_mark 5 = .ok (.iload_n 1, 1) := by decide +kernel
theorem dX12_mark_6 : decode cX12_mark 6 = .ok (.iconst 0, 1) := by decide +kernel
theorem dX12_mark_7 : decode cX12_mark 7 = .ok (.iconst 3, 1) := by decide +kernel
theorem dX12_mark_8 : decode cX12_mark 8 = .ok (.invokestatic 358, 3) := by decide +kernel
theorem dX12_mark_11 : decode cX12_mark 11 = .ok (.ifCond .eq 16, 3) := by decide +kernel
theorem dX12_mark_14 : decode cX12_mark 14 = .ok (.iload_n 2, 1) := by decide +kernel
theorem dX12_mark_15 : decode cX12_mark 15 = .ok (.ifCond .eq 14, 3) := by decide +kernel
theorem dX12_mark_18 : decode cX12_mark 18 = .ok (.aload_n 0, 1) := by decide +kernel
theorem dX12_mark_19 : decode cX12_mark 19 = .ok (.getfield 96, 3) := by decide +kernel
theorem dX12_mark_22 : decode cX12_mark 22 = .ok (.iload_n 1, 1) := by decide +kernel
theorem dX12_mark_23 : decode cX12_mark 23 = .ok (.baload, 1) := by decide +kernel
theorem dX12_mark_24 : decode cX12_mark 24 = .ok (.ifCond .ne 5, 3) := by decide +kernel
theorem dX12_mark_27 : decode cX12_mark 27 = .ok (.iconst 0, 1) := by decide +kernel
theorem dX12_mark_28 : decode cX12_mark 28 = .ok (.ireturn, 1) := by decide +kernel
theorem dX12_mark_29 : decode cX12_mark 29 = .ok (.aload_n 0, 1) := by decide +kernel
theorem dX12_mark_30 : decode cX12_mark 30 = .ok (.getfield 96, 3) := by decide +kernel
theorem dX12_mark_33 : decode cX12_mark 33 = .ok (.iload_n 1, 1) := by decide +kernel
theorem dX12_mark_34 : decode cX12_mark 34 = .ok (.iconst 1, 1) := by decide +kernel
theorem dX12_mark_35 : decode cX12_mark 35 = .ok (.bastore, 1) := by decide +kernel
theorem dX12_mark_36 : decode cX12_mark 36 = .ok (.aload_n 0, 1) := by decide +kernel
theorem dX12_mark_37 : decode cX12_mark 37 = .ok (.iload_n 2, 1) := by decide +kernel
theorem dX12_mark_38 : decode cX12_mark 38 = .ok (.ifCond .eq 13, 3) := by decide +kernel
theorem dX12_mark_41 : decode cX12_mark 41 = .ok (.sipush 206, 3) := by decide +kernel
theorem dX12_mark_44 : decode cX12_mark 44 = .ok (.iconst 1, 1) := by decide +kernel
theorem dX12_mark_45 : decode cX12_mark 45 = .ok (.iload_n 1, 1) := by decide +kernel
theorem dX12_mark_46 : decode cX12_mark 46 = .ok (.iadd, 1) := by decide +kernel
theorem dX12_mark_47 : decode cX12_mark 47 = .ok (.imul, 1) := by decide +kernel
theorem dX12_mark_48 : decode cX12_mark 48 = .ok (.goto 4, 3) := by decide +kernel
theorem dX12_mark_51 : decode cX12_mark 51 = .ok (.iconst 0, 1) := by decide +kernel
theorem dX12_mark_52 : decode cX12_mark 52 = .ok (.iload_n 2, 1) := by decide +kernel
theorem dX12_mark_53 : decode cX12_mark 53 = .ok (.ifCond .eq 7, 3) := by decide +kernel
theorem dX12_mark_56 : decode cX12_mark 56 = .ok (.iconst 0, 1) := by decide +kernel
theorem dX12_mark_57 : decode cX12_mark 57 = .ok (.goto 10, 3) := by decide +kernel
theorem dX12_mark_60 : decode cX12_mark 60 = .ok (.sipush 206, 3) := by decide +kernel
theorem dX12_mark_63 : decode cX12_mark 63 = .ok (.iconst 1, 1) := by decide +kernel
theorem dX12_mark_64 : decode cX12_mark 64 = .ok (.iload_n 1, 1) := by decide +kernel
theorem dX12_mark_65 : decode cX12_mark 65 = .ok (.iadd, 1) := by decide +kernel
theorem dX12_mark_66 : decode cX12_mark 66 = .ok (.imul, 1) := by decide +kernel
theorem dX12_mark_67 : decode cX12_mark 67 = .ok (.sipush 206, 3) := by decide +kernel
theorem dX12_mark_70 : decode cX12_mark 70 = .ok (.invokevirtual 285, 3) := by decide +kernel
theorem dX12_mark_73 : decode cX12_mark 73 = .ok (.aload_n 0, 1) := by decide +kernel
theorem dX12_mark_74 : decode cX12_mark 74 = .ok (.iload_n 2, 1) := by decide +kernel
theorem dX12_mark_75 : decode cX12_mark 75 = .ok (.ifCond .eq 7, 3) := by decide +kernel
theorem dX12_mark_78 : decode cX12_mark 78 = .ok (.iconst 0, 1) := by decide +kernel
theorem dX12_mark_79 : decode cX12_mark 79 = .ok (.goto 7, 3) := by decide +kernel
theorem dX12_mark_82 : decode cX12_mark 82 = .ok (.aload_n 0, 1) := by decide +kernel
theorem dX12_mark_83 : decode cX12_mark 83 = .ok (.getfield 282, 3) := by decide +kernel
theorem dX12_mark_86 : decode cX12_mark 86 = .ok (.putfield 282, 3) := by decide +kernel
theorem dX12_mark_89 : decode cX12_mark 89 = .ok (.iconst 1, 1) := by decide +kernel
theorem dX12_mark_90 : decode cX12_mark 90 = .ok (.ireturn, 1) := by decide +kernel
theorem dX12_count_0 : decode cX12_count 0 = .ok (.aload_n 0, 1) := by decide +kernel
theorem dX12_count_1 : decode cX12_count 1 = .ok (.iconst 0, 1) := by decide +kernel
theorem dX12_count_2 : decode cX12_count 2 = .ok (.putfield 1, 3) := by decide +kernel
theorem dX12_count_5 : decode cX12_count 5 = .ok (.iload_n 1, 1) := by decide +kernel
theorem dX12_count_6 : decode cX12_count 6 = .ok (.tableswitch 96 0 7 #[46, 51, 59, 65, 70, 77, 86, 91], 46) := by decide +kernel
theorem dX12_count_52 : decode cX12_count 52 = .ok (.aload_n 0, 1) := by decide +kernel
theorem dX12_count_53 : decode cX12_count 53 = .ok (.invokevirtual 272, 3) := by decide +kernel
theorem dX12_count_56 : decode cX12_count 56 = .ok (.ireturn, 1) := by decide +kernel
theorem dX12_count_57 : decode cX12_count 57 = .ok (.aload_n 0, 1) := by decide +kernel
theorem dX12_count_58 : decode cX12_count 58 = .ok (.getfield 93, 3) := by decide +kernel
theorem dX12_count_61 : decode cX12_count 61 = .ok (.bipush 84, 2) := by decide +kernel
theorem dX12_count_63 : decode cX12_count 63 = .ok (.iaload, 1) := by decide +kernel
theorem dX12_count_64 : decode cX12_count 64 = .ok (.ireturn, 1) := by decide +kernel
theorem dX12_count_65 : decode cX12_count 65 = .ok (.aload_n 0, 1) := by decide +kernel
theorem dX12_count_66 : decode cX12_count 66 = .ok (.iconst 0, 1) := by decide +kernel
theorem dX12_count_67 : decode cX12_count 67 = .ok (.invokevirtual 417, 3) := by decide +kernel
theorem dX12_count_70 : decode cX12_count 70 = .ok (.ireturn, 1) := by decide +kernel
theorem dX12_count_71 : decode cX12_count 71 = .ok (.aload_n 0, 1) := by decide +kernel
theorem dX12_count_72 : decode cX12_count 72 = .ok (.getfield 279, 3) := by decide +kernel
theorem dX12_count_75 : decode cX12_count 75 = .ok (.ireturn, 1) := by decide +kernel
theorem dX12_count_76 : decode cX12_count 76 = .ok (.aload_n 0, 1) := by decide +kernel
theorem dX12_count_77 : decode cX12_count 77 = .ok (.getfield 84, 3) := by decide +kernel
theorem dX12_count_80 : decode cX12_count 80 = .ok (.iconst 0, 1) := by decide +kernel
theorem dX12_count_81 : decode cX12_count 81 = .ok (.iaload, 1) := by decide +kernel
theorem dX12_count_82 : decode cX12_count 82 = .ok (.ireturn, 1) := by decide +kernel
theorem dX12_count_83 : decode cX12_count 83 = .ok (.aload_n 0, 1) := by decide +kernel
theorem dX12_count_84 : decode cX12_count 84 = .ok (.getfield 93, 3) := by decide +kernel
theorem dX12_count_87 : decode cX12_count 87 = .ok (.sipush 181, 3) := by decide +kernel
theorem dX12_count_90 : decode cX12_count 90 = .ok (.iaload, 1) := by decide +kernel
theorem dX12_count_91 : decode cX12_count 91 = .ok (.ireturn, 1) := by decide +kernel
theorem dX12_count_92 : decode cX12_count 92 = .ok (.aload_n 0, 1) := by decide +kernel
theorem dX12_count_93 : decode cX12_count 93 = .ok (.getfield 282, 3) := by decide +kernel
theorem dX12_count_96 : decode cX12_count 96 = .ok (.ireturn, 1) := by decide +kernel
theorem dX12_count_97 : decode cX12_count 97 = .ok (.aload_n 0, 1) := by decide +kernel
theorem dX12_count_98 : decode cX12_count 98 = .ok (.getfield 11, 3) := by decide +kernel
theorem dX12_count_101 : decode cX12_count 101 = .ok (.ireturn, 1) := by decide +kernel
theorem dX12_count_102 : decode cX12_count 102 = .ok (.iconst (-1), 1) := by decide +kernel
theorem dX12_count_103 : decode cX12_count 103 = .ok (.ireturn, 1) := by decide +kernel
