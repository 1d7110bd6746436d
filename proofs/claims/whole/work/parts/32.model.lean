theorem d_Md_readTold_0 : decode jMd_readTold.cc 0 = .ok (.aload_n 0, 1) := by decide +kernel
theorem d_Md_readTold_1 : decode jMd_readTold.cc 1 = .ok (.ldc 52, 2) := by decide +kernel
theorem d_Md_readTold_3 : decode jMd_readTold.cc 3 = .ok (.invokevirtual 374, 3) := by decide +kernel
theorem d_Md_readTold_6 : decode jMd_readTold.cc 6 = .ok (.ifCond .eq 7, 3) := by decide +kernel
theorem d_Md_readTold_9 : decode jMd_readTold.cc 9 = .ok (.iconst 0, 1) := by decide +kernel
theorem d_Md_readTold_10 : decode jMd_readTold.cc 10 = .ok (.goto 30, 3) := by decide +kernel
theorem d_Md_readTold_13 : decode jMd_readTold.cc 13 = .ok (.aload_n 0, 1) := by decide +kernel
theorem d_Md_readTold_14 : decode jMd_readTold.cc 14 = .ok (.ldc 54, 2) := by decide +kernel
theorem d_Md_readTold_16 : decode jMd_readTold.cc 16 = .ok (.invokevirtual 374, 3) := by decide +kernel
theorem d_Md_readTold_19 : decode jMd_readTold.cc 19 = .ok (.ifCond .eq 7, 3) := by decide +kernel
theorem d_Md_readTold_22 : decode jMd_readTold.cc 22 = .ok (.iconst 1, 1) := by decide +kernel
theorem d_Md_readTold_23 : decode jMd_readTold.cc 23 = .ok (.goto 17, 3) := by decide +kernel
theorem d_Md_readTold_26 : decode jMd_readTold.cc 26 = .ok (.aload_n 0, 1) := by decide +kernel
theorem d_Md_readTold_27 : decode jMd_readTold.cc 27 = .ok (.ldc 56, 2) := by decide +kernel
theorem d_Md_readTold_29 : decode jMd_readTold.cc 29 = .ok (.invokevirtual 374, 3) := by decide +kernel
theorem d_Md_readTold_32 : decode jMd_readTold.cc 32 = .ok (.ifCond .eq 7, 3) := by decide +kernel
theorem d_Md_readTold_35 : decode jMd_readTold.cc 35 = .ok (.iconst 2, 1) := by decide +kernel
theorem d_Md_readTold_36 : decode jMd_readTold.cc 36 = .ok (.goto 4, 3) := by decide +kernel
theorem d_Md_readTold_39 : decode jMd_readTold.cc 39 = .ok (.iconst 3, 1) := by decide +kernel
theorem d_Md_readTold_40 : decode jMd_readTold.cc 40 = .ok (.istore_n 1, 1) := by decide +kernel
theorem d_Md_readTold_41 : decode jMd_readTold.cc 41 = .ok (.aload_n 0, 1) := by decide +kernel
theorem d_Md_readTold_42 : decode jMd_readTold.cc 42 = .ok (.invokevirtual 378, 3) := by decide +kernel
theorem d_Md_readTold_45 : decode jMd_readTold.cc 45 = .ok (.istore_n 2, 1) := by decide +kernel
theorem d_Md_readTold_46 : decode jMd_readTold.cc 46 = .ok (.aload_n 0, 1) := by decide +kernel
theorem d_Md_readTold_47 : decode jMd_readTold.cc 47 = .ok (.invokevirtual 424, 3) := by decide +kernel
theorem d_Md_readTold_50 : decode jMd_readTold.cc 50 = .ok (.istore_n 2, 1) := by decide +kernel
theorem d_Md_readTold_51 : decode jMd_readTold.cc 51 = .ok (.aload_n 0, 1) := by decide +kernel
theorem d_Md_readTold_52 : decode jMd_readTold.cc 52 = .ok (.getfield 185, 3) := by decide +kernel
theorem d_Md_readTold_55 : decode jMd_readTold.cc 55 = .ok (.iload_n 1, 1) := by decide +kernel
theorem d_Md_readTold_56 : decode jMd_readTold.cc 56 = .ok (.iaload, 1) := by decide +kernel
theorem d_Md_readTold_57 : decode jMd_readTold.cc 57 = .ok (.iload_n 1, 1) := by decide +kernel
theorem d_Md_readTold_58 : decode jMd_readTold.cc 58 = .ok (.invokestatic 442, 3) := by decide +kernel
theorem d_Md_readTold_61 : decode jMd_readTold.cc 61 = .ok (.if_icmp .ne 16, 3) := by decide +kernel
theorem d_Md_readTold_64 : decode jMd_readTold.cc 64 = .ok (.aload_n 0, 1) := by decide +kernel
theorem d_Md_readTold_65 : decode jMd_readTold.cc 65 = .ok (.iconst 2, 1) := by decide +kernel
theorem d_Md_readTold_66 : decode jMd_readTold.cc 66 = .ok (.aload_n 0, 1) := by decide +kernel
theorem d_Md_readTold_67 : decode jMd_readTold.cc 67 = .ok (.aload_n 0, 1) := by decide +kernel
theorem d_Md_readTold_68 : decode jMd_readTold.cc 68 = .ok (.getfield 363, 3) := by decide +kernel
theorem d_Md_readTold_71 : decode jMd_readTold.cc 71 = .ok (.invokevirtual 366, 3) := by decide +kernel
theorem d_Md_readTold_74 : decode jMd_readTold.cc 74 = .ok (.invokevirtual 370, 3) := by decide +kernel
theorem d_Md_readTold_77 : decode jMd_readTold.cc 77 = .ok (.aload_n 0, 1) := by decide +kernel
theorem d_Md_readTold_78 : decode jMd_readTold.cc 78 = .ok (.getfield 444, 3) := by decide +kernel
theorem d_Md_readTold_81 : decode jMd_readTold.cc 81 = .ok (.istore_n 3, 1) := by decide +kernel
theorem d_Md_readTold_82 : decode jMd_readTold.cc 82 = .ok (.aload_n 0, 1) := by decide +kernel
theorem d_Md_readTold_83 : decode jMd_readTold.cc 83 = .ok (.getfield 167, 3) := by decide +kernel
theorem d_Md_readTold_86 : decode jMd_readTold.cc 86 = .ok (.iload_n 3, 1) := by decide +kernel
theorem d_Md_readTold_87 : decode jMd_readTold.cc 87 = .ok (.iload_n 1, 1) := by decide +kernel
theorem d_Md_readTold_88 : decode jMd_readTold.cc 88 = .ok (.iastore, 1) := by decide +kernel
theorem d_Md_readTold_89 : decode jMd_readTold.cc 89 = .ok (.aload_n 0, 1) := by decide +kernel
theorem d_Md_readTold_90 : decode jMd_readTold.cc 90 = .ok (.getfield 170, 3) := by decide +kernel
theorem d_Md_readTold_93 : decode jMd_readTold.cc 93 = .ok (.iload_n 3, 1) := by decide +kernel
theorem d_Md_readTold_94 : decode jMd_readTold.cc 94 = .ok (.aload_n 0, 1) := by decide +kernel
theorem d_Md_readTold_95 : decode jMd_readTold.cc 95 = .ok (.invokevirtual 378, 3) := by decide +kernel
theorem d_Md_readTold_98 : decode jMd_readTold.cc 98 = .ok (.iastore, 1) := by decide +kernel
theorem d_Md_readTold_99 : decode jMd_readTold.cc 99 = .ok (.aload_n 0, 1) := by decide +kernel
theorem d_Md_readTold_100 : decode jMd_readTold.cc 100 = .ok (.getfield 173, 3) := by decide +kernel
theorem d_Md_readTold_103 : decode jMd_readTold.cc 103 = .ok (.iload_n 3, 1) := by decide +kernel
theorem d_Md_readTold_104 : decode jMd_readTold.cc 104 = .ok (.iconst 0, 1) := by decide +kernel
theorem d_Md_readTold_105 : decode jMd_readTold.cc 105 = .ok (.iastore, 1) := by decide +kernel
theorem d_Md_readTold_106 : decode jMd_readTold.cc 106 = .ok (.aload_n 0, 1) := by decide +kernel
theorem d_Md_readTold_107 : decode jMd_readTold.cc 107 = .ok (.getfield 179, 3) := by decide +kernel
theorem d_Md_readTold_110 : decode jMd_readTold.cc 110 = .ok (.iload_n 3, 1) := by decide +kernel
theorem d_Md_readTold_111 : decode jMd_readTold.cc 111 = .ok (.bipush (-2), 2) := by decide +kernel
theorem d_Md_readTold_113 : decode jMd_readTold.cc 113 = .ok (.iastore, 1) := by decide +kernel
theorem d_Md_readTold_114 : decode jMd_readTold.cc 114 = .ok (.aload_n 0, 1) := by decide +kernel
theorem d_Md_readTold_115 : decode jMd_readTold.cc 115 = .ok (.getfield 182, 3) := by decide +kernel
theorem d_Md_readTold_118 : decode jMd_readTold.cc 118 = .ok (.iload_n 3, 1) := by decide +kernel
theorem d_Md_readTold_119 : decode jMd_readTold.cc 119 = .ok (.bipush (-2), 2) := by decide +kernel
theorem d_Md_readTold_121 : decode jMd_readTold.cc 121 = .ok (.iastore, 1) := by decide +kernel
theorem d_Md_readTold_122 : decode jMd_readTold.cc 122 = .ok (.iload_n 1, 1) := by decide +kernel
theorem d_Md_readTold_123 : decode jMd_readTold.cc 123 = .ok (.iconst 1, 1) := by decide +kernel
theorem d_Md_readTold_124 : decode jMd_readTold.cc 124 = .ok (.if_icmp .ne 250, 3) := by decide +kernel
theorem d_Md_readTold_127 : decode jMd_readTold.cc 127 = .ok (.aload_n 0, 1) := by decide +kernel
theorem d_Md_readTold_128 : decode jMd_readTold.cc 128 = .ok (.ldc 144, 2) := by decide +kernel
theorem d_Md_readTold_130 : decode jMd_readTold.cc 130 = .ok (.invokevirtual 420, 3) := by decide +kernel
theorem d_Md_readTold_133 : decode jMd_readTold.cc 133 = .ok (.istore_n 2, 1) := by decide +kernel
theorem d_Md_readTold_134 : decode jMd_readTold.cc 134 = .ok (.aload_n 0, 1) := by decide +kernel
theorem d_Md_readTold_135 : decode jMd_readTold.cc 135 = .ok (.ldc 60, 2) := by decide +kernel
theorem d_Md_readTold_137 : decode jMd_readTold.cc 137 = .ok (.invokevirtual 374, 3) := by decide +kernel
theorem d_Md_readTold_140 : decode jMd_readTold.cc 140 = .ok (.ifCond .ne 25, 3) := by decide +kernel
theorem d_Md_readTold_143 : decode jMd_readTold.cc 143 = .ok (.aload_n 0, 1) := by decide +kernel
theorem d_Md_readTold_144 : decode jMd_readTold.cc 144 = .ok (.ldc 62, 2) := by decide +kernel
theorem d_Md_readTold_146 : decode jMd_readTold.cc 146 = .ok (.invokevirtual 374, 3) := by decide +kernel
theorem d_Md_readTold_149 : decode jMd_readTold.cc 149 = .ok (.ifCond .ne 16, 3) := by decide +kernel
theorem d_Md_readTold_152 : decode jMd_readTold.cc 152 = .ok (.aload_n 0, 1) := by decide +kernel
theorem d_Md_readTold_153 : decode jMd_readTold.cc 153 = .ok (.iconst 1, 1) := by decide +kernel
theorem d_Md_readTold_154 : decode jMd_readTold.cc 154 = .ok (.aload_n 0, 1) := by decide +kernel
theorem d_Md_readTold_155 : decode jMd_readTold.cc 155 = .ok (.aload_n 0, 1) := by decide +kernel
theorem d_Md_readTold_156 : decode jMd_readTold.cc 156 = .ok (.getfield 363, 3) := by decide +kernel
theorem d_Md_readTold_159 : decode jMd_readTold.cc 159 = .ok (.invokevirtual 366, 3) := by decide +kernel
theorem d_Md_readTold_162 : decode jMd_readTold.cc 162 = .ok (.invokevirtual 370, 3) := by decide +kernel
theorem d_Md_readTold_165 : decode jMd_readTold.cc 165 = .ok (.aload_n 0, 1) := by decide +kernel
theorem d_Md_readTold_166 : decode jMd_readTold.cc 166 = .ok (.getfield 173, 3) := by decide +kernel
theorem d_Md_readTold_169 : decode jMd_readTold.cc 169 = .ok (.iload_n 3, 1) := by decide +kernel
theorem d_Md_readTold_170 : decode jMd_readTold.cc 170 = .ok (.aload_n 0, 1) := by decide +kernel
theorem d_Md_readTold_171 : decode jMd_readTold.cc 171 = .ok (.ldc 60, 2) := by decide +kernel
theorem d_Md_readTold_173 : decode jMd_readTold.cc 173 = .ok (.invokevirtual 374, 3) := by decide +kernel
theorem d_Md_readTold_176 : decode jMd_readTold.cc 176 = .ok (.ifCond .eq 7, 3) := by decide +kernel
theorem d_Md_readTold_179 : decode jMd_readTold.cc 179 = .ok (.iconst 0, 1) := by decide +kernel
theorem d_Md_readTold_180 : decode jMd_readTold.cc 180 = .ok (.goto 4, 3) := by decide +kernel
theorem d_Md_readTold_183 : decode jMd_readTold.cc 183 = .ok (.iconst 1, 1) := by decide +kernel
theorem d_Md_readTold_184 : decode jMd_readTold.cc 184 = .ok (.iastore, 1) := by decide +kernel
theorem d_Md_readTold_185 : decode jMd_readTold.cc 185 = .ok (.aload_n 0, 1) := by decide +kernel
theorem d_Md_readTold_186 : decode jMd_readTold.cc 186 = .ok (.invokevirtual 378, 3) := by decide +kernel
theorem d_Md_readTold_189 : decode jMd_readTold.cc 189 = .ok (.istore_n 2, 1) := by decide +kernel
theorem d_Md_readTold_190 : decode jMd_readTold.cc 190 = .ok (.aload_n 0, 1) := by decide +kernel
theorem d_Md_readTold_191 : decode jMd_readTold.cc 191 = .ok (.ldc 146, 2) := by decide +kernel
theorem d_Md_readTold_193 : decode jMd_readTold.cc 193 = .ok (.invokevirtual 420, 3) := by decide +kernel
theorem d_Md_readTold_196 : decode jMd_readTold.cc 196 = .ok (.istore_n 2, 1) := by decide +kernel
theorem d_Md_readTold_197 : decode jMd_readTold.cc 197 = .ok (.aload_n 0, 1) := by decide +kernel
theorem d_Md_readTold_198 : decode jMd_readTold.cc 198 = .ok (.ldc 154, 2) := by decide +kernel
theorem d_Md_readTold_200 : decode jMd_readTold.cc 200 = .ok (.invokevirtual 374, 3) := by decide +kernel
theorem d_Md_readTold_203 : decode jMd_readTold.cc 203 = .ok (.ifCond .eq 16, 3) := by decide +kernel
theorem d_Md_readTold_206 : decode jMd_readTold.cc 206 = .ok (.aload_n 0, 1) := by decide +kernel
theorem d_Md_readTold_207 : decode jMd_readTold.cc 207 = .ok (.getfield 173, 3) := by decide +kernel
theorem d_Md_readTold_210 : decode jMd_readTold.cc 210 = .ok (.iload_n 3, 1) := by decide +kernel
theorem d_Md_readTold_211 : decode jMd_readTold.cc 211 = .ok (.iaload, 1) := by decide +kernel
theorem d_Md_readTold_212 : decode jMd_readTold.cc 212 = .ok (.ifCond .ne 7, 3) := by decide +kernel
theorem d_Md_readTold_215 : decode jMd_readTold.cc 215 = .ok (.iconst 1, 1) := by decide +kernel
theorem d_Md_readTold_216 : decode jMd_readTold.cc 216 = .ok (.goto 4, 3) := by decide +kernel
theorem d_Md_readTold_219 : decode jMd_readTold.cc 219 = .ok (.iconst 0, 1) := by decide +kernel
theorem d_Md_readTold_220 : decode jMd_readTold.cc 220 = .ok (.istore 4, 2) := by decide +kernel
theorem d_Md_readTold_222 : decode jMd_readTold.cc 222 = .ok (.iload 4, 2) := by decide +kernel
theorem d_Md_readTold_224 : decode jMd_readTold.cc 224 = .ok (.ifCond .eq 13, 3) := by decide +kernel
theorem d_Md_readTold_227 : decode jMd_readTold.cc 227 = .ok (.aload_n 0, 1) := by decide +kernel
theorem d_Md_readTold_228 : decode jMd_readTold.cc 228 = .ok (.getfield 182, 3) := by decide +kernel
theorem d_Md_readTold_231 : decode jMd_readTold.cc 231 = .ok (.iload_n 3, 1) := by decide +kernel
theorem d_Md_readTold_232 : decode jMd_readTold.cc 232 = .ok (.aload_n 0, 1) := by decide +kernel
theorem d_Md_readTold_233 : decode jMd_readTold.cc 233 = .ok (.invokevirtual 378, 3) := by decide +kernel
theorem d_Md_readTold_236 : decode jMd_readTold.cc 236 = .ok (.iastore, 1) := by decide +kernel
theorem d_Md_readTold_237 : decode jMd_readTold.cc 237 = .ok (.aload_n 0, 1) := by decide +kernel
theorem d_Md_readTold_238 : decode jMd_readTold.cc 238 = .ok (.getfield 173, 3) := by decide +kernel
theorem d_Md_readTold_241 : decode jMd_readTold.cc 241 = .ok (.iload_n 3, 1) := by decide +kernel
theorem d_Md_readTold_242 : decode jMd_readTold.cc 242 = .ok (.iaload, 1) := by decide +kernel
theorem d_Md_readTold_243 : decode jMd_readTold.cc 243 = .ok (.ifCond .ne 19, 3) := by decide +kernel
theorem d_Md_readTold_246 : decode jMd_readTold.cc 246 = .ok (.aload_n 0, 1) := by decide +kernel
theorem d_Md_readTold_247 : decode jMd_readTold.cc 247 = .ok (.getfield 33, 3) := by decide +kernel
theorem d_Md_readTold_250 : decode jMd_readTold.cc 250 = .ok (.aload_n 0, 1) := by decide +kernel
theorem d_Md_readTold_251 : decode jMd_readTold.cc 251 = .ok (.getfield 363, 3) := by decide +kernel
theorem d_Md_readTold_254 : decode jMd_readTold.cc 254 = .ok (.iaload, 1) := by decide +kernel
theorem d_Md_readTold_255 : decode jMd_readTold.cc 255 = .ok (.iconst 1, 1) := by decide +kernel
theorem d_Md_readTold_256 : decode jMd_readTold.cc 256 = .ok (.if_icmp .eq 37, 3) := by decide +kernel
theorem d_Md_readTold_259 : decode jMd_readTold.cc 259 = .ok (.goto 21, 3) := by decide +kernel
theorem d_Md_readTold_262 : decode jMd_readTold.cc 262 = .ok (.aload_n 0, 1) := by decide +kernel
theorem d_Md_readTold_263 : decode jMd_readTold.cc 263 = .ok (.ldc 64, 2) := by decide +kernel
theorem d_Md_readTold_265 : decode jMd_readTold.cc 265 = .ok (.invokevirtual 374, 3) := by decide +kernel
theorem d_Md_readTold_268 : decode jMd_readTold.cc 268 = .ok (.ifCond .ne 25, 3) := by decide +kernel
theorem d_Md_readTold_271 : decode jMd_readTold.cc 271 = .ok (.aload_n 0, 1) := by decide +kernel
theorem d_Md_readTold_272 : decode jMd_readTold.cc 272 = .ok (.ldc 66, 2) := by decide +kernel
theorem d_Md_readTold_274 : decode jMd_readTold.cc 274 = .ok (.invokevirtual 374, 3) := by decide +kernel
theorem d_Md_readTold_277 : decode jMd_readTold.cc 277 = .ok (.ifCond .ne 16, 3) := by decide +kernel
theorem d_Md_readTold_280 : decode jMd_readTold.cc 280 = .ok (.aload_n 0, 1) := by decide +kernel
theorem d_Md_readTold_281 : decode jMd_readTold.cc 281 = .ok (.iconst 1, 1) := by decide +kernel
theorem d_Md_readTold_282 : decode jMd_readTold.cc 282 = .ok (.aload_n 0, 1) := by decide +kernel
theorem d_Md_readTold_283 : decode jMd_readTold.cc 283 = .ok (.aload_n 0, 1) := by decide +kernel
theorem d_Md_readTold_284 : decode jMd_readTold.cc 284 = .ok (.getfield 363, 3) := by decide +kernel
theorem d_Md_readTold_287 : decode jMd_readTold.cc 287 = .ok (.invokevirtual 366, 3) := by decide +kernel
theorem d_Md_readTold_290 : decode jMd_readTold.cc 290 = .ok (.invokevirtual 370, 3) := by decide +kernel
theorem d_Md_readTold_293 : decode jMd_readTold.cc 293 = .ok (.aload_n 0, 1) := by decide +kernel
theorem d_Md_readTold_294 : decode jMd_readTold.cc 294 = .ok (.getfield 179, 3) := by decide +kernel
theorem d_Md_readTold_297 : decode jMd_readTold.cc 297 = .ok (.iload_n 3, 1) := by decide +kernel
theorem d_Md_readTold_298 : decode jMd_readTold.cc 298 = .ok (.aload_n 0, 1) := by decide +kernel
theorem d_Md_readTold_299 : decode jMd_readTold.cc 299 = .ok (.getfield 363, 3) := by decide +kernel
theorem d_Md_readTold_302 : decode jMd_readTold.cc 302 = .ok (.iastore, 1) := by decide +kernel
theorem d_Md_readTold_303 : decode jMd_readTold.cc 303 = .ok (.aload_n 0, 1) := by decide +kernel
theorem d_Md_readTold_304 : decode jMd_readTold.cc 304 = .ok (.getfield 176, 3) := by decide +kernel
theorem d_Md_readTold_307 : decode jMd_readTold.cc 307 = .ok (.iload_n 3, 1) := by decide +kernel
theorem d_Md_readTold_308 : decode jMd_readTold.cc 308 = .ok (.aload_n 0, 1) := by decide +kernel
theorem d_Md_readTold_309 : decode jMd_readTold.cc 309 = .ok (.getfield 33, 3) := by decide +kernel
theorem d_Md_readTold_312 : decode jMd_readTold.cc 312 = .ok (.aload_n 0, 1) := by decide +kernel
theorem d_Md_readTold_313 : decode jMd_readTold.cc 313 = .ok (.getfield 363, 3) := by decide +kernel
theorem d_Md_readTold_316 : decode jMd_readTold.cc 316 = .ok (.iaload, 1) := by decide +kernel
theorem d_Md_readTold_317 : decode jMd_readTold.cc 317 = .ok (.iconst 1, 1) := by decide +kernel
theorem d_Md_readTold_318 : decode jMd_readTold.cc 318 = .ok (.if_icmp .ne 33, 3) := by decide +kernel
theorem d_Md_readTold_321 : decode jMd_readTold.cc 321 = .ok (.iload 4, 2) := by decide +kernel
theorem d_Md_readTold_323 : decode jMd_readTold.cc 323 = .ok (.ifCond .eq 16, 3) := by decide +kernel
theorem d_Md_readTold_326 : decode jMd_readTold.cc 326 = .ok (.aload_n 0, 1) := by decide +kernel
theorem d_Md_readTold_327 : decode jMd_readTold.cc 327 = .ok (.getfield 43, 3) := by decide +kernel
theorem d_Md_readTold_330 : decode jMd_readTold.cc 330 = .ok (.aload_n 0, 1) := by decide +kernel
theorem d_Md_readTold_331 : decode jMd_readTold.cc 331 = .ok (.getfield 363, 3) := by decide +kernel
theorem d_Md_readTold_334 : decode jMd_readTold.cc 334 = .ok (.iaload, 1) := by decide +kernel
theorem d_Md_readTold_335 : decode jMd_readTold.cc 335 = .ok (.ineg, 1) := by decide +kernel
theorem d_Md_readTold_336 : decode jMd_readTold.cc 336 = .ok (.goto 29, 3) := by decide +kernel
theorem d_Md_readTold_339 : decode jMd_readTold.cc 339 = .ok (.aload_n 0, 1) := by decide +kernel
theorem d_Md_readTold_340 : decode jMd_readTold.cc 340 = .ok (.getfield 43, 3) := by decide +kernel
theorem d_Md_readTold_343 : decode jMd_readTold.cc 343 = .ok (.aload_n 0, 1) := by decide +kernel
theorem d_Md_readTold_344 : decode jMd_readTold.cc 344 = .ok (.getfield 363, 3) := by decide +kernel
theorem d_Md_readTold_347 : decode jMd_readTold.cc 347 = .ok (.iaload, 1) := by decide +kernel
theorem d_Md_readTold_348 : decode jMd_readTold.cc 348 = .ok (.goto 17, 3) := by decide +kernel
theorem d_Md_readTold_351 : decode jMd_readTold.cc 351 = .ok (.aload_n 0, 1) := by decide +kernel
theorem d_Md_readTold_352 : decode jMd_readTold.cc 352 = .ok (.ldc 64, 2) := by decide +kernel
theorem d_Md_readTold_354 : decode jMd_readTold.cc 354 = .ok (.invokevirtual 374, 3) := by decide +kernel
theorem d_Md_readTold_357 : decode jMd_readTold.cc 357 = .ok (.ifCond .eq 7, 3) := by decide +kernel
theorem d_Md_readTold_360 : decode jMd_readTold.cc 360 = .ok (.iconst 1, 1) := by decide +kernel
theorem d_Md_readTold_361 : decode jMd_readTold.cc 361 = .ok (.goto 4, 3) := by decide +kernel
theorem d_Md_readTold_364 : decode jMd_readTold.cc 364 = .ok (.iconst 0, 1) := by decide +kernel
theorem d_Md_readTold_365 : decode jMd_readTold.cc 365 = .ok (.iastore, 1) := by decide +kernel
theorem d_Md_readTold_366 : decode jMd_readTold.cc 366 = .ok (.aload_n 0, 1) := by decide +kernel
theorem d_Md_readTold_367 : decode jMd_readTold.cc 367 = .ok (.invokevirtual 378, 3) := by decide +kernel
theorem d_Md_readTold_370 : decode jMd_readTold.cc 370 = .ok (.istore_n 2, 1) := by decide +kernel
theorem d_Md_readTold_371 : decode jMd_readTold.cc 371 = .ok (.goto 155, 3) := by decide +kernel
theorem d_Md_readTold_374 : decode jMd_readTold.cc 374 = .ok (.iload_n 1, 1) := by decide +kernel
theorem d_Md_readTold_375 : decode jMd_readTold.cc 375 = .ok (.ifCond .eq 151, 3) := by decide +kernel
theorem d_Md_readTold_378 : decode jMd_readTold.cc 378 = .ok (.aload_n 0, 1) := by decide +kernel
theorem d_Md_readTold_379 : decode jMd_readTold.cc 379 = .ok (.ldc 144, 2) := by decide +kernel
theorem d_Md_readTold_381 : decode jMd_readTold.cc 381 = .ok (.invokevirtual 420, 3) := by decide +kernel
theorem d_Md_readTold_384 : decode jMd_readTold.cc 384 = .ok (.istore_n 2, 1) := by decide +kernel
theorem d_Md_readTold_385 : decode jMd_readTold.cc 385 = .ok (.aload_n 0, 1) := by decide +kernel
theorem d_Md_readTold_386 : decode jMd_readTold.cc 386 = .ok (.ldc 68, 2) := by decide +kernel
theorem d_Md_readTold_388 : decode jMd_readTold.cc 388 = .ok (.invokevirtual 374, 3) := by decide +kernel
theorem d_Md_readTold_391 : decode jMd_readTold.cc 391 = .ok (.ifCond .eq 7, 3) := by decide +kernel
theorem d_Md_readTold_394 : decode jMd_readTold.cc 394 = .ok (.iconst 0, 1) := by decide +kernel
theorem d_Md_readTold_395 : decode jMd_readTold.cc 395 = .ok (.goto 70, 3) := by decide +kernel
theorem d_Md_readTold_398 : decode jMd_readTold.cc 398 = .ok (.aload_n 0, 1) := by decide +kernel
theorem d_Md_readTold_399 : decode jMd_readTold.cc 399 = .ok (.ldc 70, 2) := by decide +kernel
theorem d_Md_readTold_401 : decode jMd_readTold.cc 401 = .ok (.invokevirtual 374, 3) := by decide +kernel
theorem d_Md_readTold_404 : decode jMd_readTold.cc 404 = .ok (.ifCond .eq 7, 3) := by decide +kernel
theorem d_Md_readTold_407 : decode jMd_readTold.cc 407 = .ok (.iconst 1, 1) := by decide +kernel
theorem d_Md_readTold_408 : decode jMd_readTold.cc 408 = .ok (.goto 57, 3) := by decide +kernel
theorem d_Md_readTold_411 : decode jMd_readTold.cc 411 = .ok (.aload_n 0, 1) := by decide +kernel
theorem d_Md_readTold_412 : decode jMd_readTold.cc 412 = .ok (.ldc 72, 2) := by decide +kernel
theorem d_Md_readTold_414 : decode jMd_readTold.cc 414 = .ok (.invokevirtual 374, 3) := by decide +kernel
theorem d_Md_readTold_417 : decode jMd_readTold.cc 417 = .ok (.ifCond .eq 7, 3) := by decide +kernel
theorem d_Md_readTold_420 : decode jMd_readTold.cc 420 = .ok (.iconst 2, 1) := by decide +kernel
theorem d_Md_readTold_421 : decode jMd_readTold.cc 421 = .ok (.goto 44, 3) := by decide +kernel
theorem d_Md_readTold_424 : decode jMd_readTold.cc 424 = .ok (.aload_n 0, 1) := by decide +kernel
theorem d_Md_readTold_425 : decode jMd_readTold.cc 425 = .ok (.ldc 74, 2) := by decide +kernel
theorem d_Md_readTold_427 : decode jMd_readTold.cc 427 = .ok (.invokevirtual 374, 3) := by decide +kernel
theorem d_Md_readTold_430 : decode jMd_readTold.cc 430 = .ok (.ifCond .eq 7, 3) := by decide +kernel
theorem d_Md_readTold_433 : decode jMd_readTold.cc 433 = .ok (.iconst 3, 1) := by decide +kernel
theorem d_Md_readTold_434 : decode jMd_readTold.cc 434 = .ok (.goto 31, 3) := by decide +kernel
theorem d_Md_readTold_437 : decode jMd_readTold.cc 437 = .ok (.aload_n 0, 1) := by decide +kernel
theorem d_Md_readTold_438 : decode jMd_readTold.cc 438 = .ok (.ldc 76, 2) := by decide +kernel
theorem d_Md_readTold_440 : decode jMd_readTold.cc 440 = .ok (.invokevirtual 374, 3) := by decide +kernel
theorem d_Md_readTold_443 : decode jMd_readTold.cc 443 = .ok (.ifCond .eq 7, 3) := by decide +kernel
theorem d_Md_readTold_446 : decode jMd_readTold.cc 446 = .ok (.iconst 4, 1) := by decide +kernel
theorem d_Md_readTold_447 : decode jMd_readTold.cc 447 = .ok (.goto 18, 3) := by decide +kernel
theorem d_Md_readTold_450 : decode jMd_readTold.cc 450 = .ok (.aload_n 0, 1) := by decide +kernel
theorem d_Md_readTold_451 : decode jMd_readTold.cc 451 = .ok (.ldc 78, 2) := by decide +kernel
theorem d_Md_readTold_453 : decode jMd_readTold.cc 453 = .ok (.invokevirtual 374, 3) := by decide +kernel
theorem d_Md_readTold_456 : decode jMd_readTold.cc 456 = .ok (.ifCond .eq 7, 3) := by decide +kernel
theorem d_Md_readTold_459 : decode jMd_readTold.cc 459 = .ok (.iconst 5, 1) := by decide +kernel
theorem d_Md_readTold_460 : decode jMd_readTold.cc 460 = .ok (.goto 5, 3) := by decide +kernel
theorem d_Md_readTold_463 : decode jMd_readTold.cc 463 = .ok (.bipush (-2), 2) := by decide +kernel
theorem d_Md_readTold_465 : decode jMd_readTold.cc 465 = .ok (.istore 4, 2) := by decide +kernel
theorem d_Md_readTold_467 : decode jMd_readTold.cc 467 = .ok (.iload 4, 2) := by decide +kernel
theorem d_Md_readTold_469 : decode jMd_readTold.cc 469 = .ok (.ifCond .ge 16, 3) := by decide +kernel
theorem d_Md_readTold_472 : decode jMd_readTold.cc 472 = .ok (.aload_n 0, 1) := by decide +kernel
theorem d_Md_readTold_473 : decode jMd_readTold.cc 473 = .ok (.iconst 1, 1) := by decide +kernel
theorem d_Md_readTold_474 : decode jMd_readTold.cc 474 = .ok (.aload_n 0, 1) := by decide +kernel
theorem d_Md_readTold_475 : decode jMd_readTold.cc 475 = .ok (.aload_n 0, 1) := by decide +kernel
theorem d_Md_readTold_476 : decode jMd_readTold.cc 476 = .ok (.getfield 363, 3) := by decide +kernel
theorem d_Md_readTold_479 : decode jMd_readTold.cc 479 = .ok (.invokevirtual 366, 3) := by decide +kernel
theorem d_Md_readTold_482 : decode jMd_readTold.cc 482 = .ok (.invokevirtual 370, 3) := by decide +kernel
theorem d_Md_readTold_485 : decode jMd_readTold.cc 485 = .ok (.aload_n 0, 1) := by decide +kernel
theorem d_Md_readTold_486 : decode jMd_readTold.cc 486 = .ok (.getfield 176, 3) := by decide +kernel
theorem d_Md_readTold_489 : decode jMd_readTold.cc 489 = .ok (.iload_n 3, 1) := by decide +kernel
theorem d_Md_readTold_490 : decode jMd_readTold.cc 490 = .ok (.iload 4, 2) := by decide +kernel
theorem d_Md_readTold_492 : decode jMd_readTold.cc 492 = .ok (.iastore, 1) := by decide +kernel
theorem d_Md_readTold_493 : decode jMd_readTold.cc 493 = .ok (.aload_n 0, 1) := by decide +kernel
theorem d_Md_readTold_494 : decode jMd_readTold.cc 494 = .ok (.getfield 179, 3) := by decide +kernel
theorem d_Md_readTold_497 : decode jMd_readTold.cc 497 = .ok (.iload_n 3, 1) := by decide +kernel
theorem d_Md_readTold_498 : decode jMd_readTold.cc 498 = .ok (.aload_n 0, 1) := by decide +kernel
theorem d_Md_readTold_499 : decode jMd_readTold.cc 499 = .ok (.invokevirtual 378, 3) := by decide +kernel
theorem d_Md_readTold_502 : decode jMd_readTold.cc 502 = .ok (.iastore, 1) := by decide +kernel
theorem d_Md_readTold_503 : decode jMd_readTold.cc 503 = .ok (.aload_n 0, 1) := by decide +kernel
theorem d_Md_readTold_504 : decode jMd_readTold.cc 504 = .ok (.getfield 173, 3) := by decide +kernel
theorem d_Md_readTold_507 : decode jMd_readTold.cc 507 = .ok (.iload_n 3, 1) := by decide +kernel
theorem d_Md_readTold_508 : decode jMd_readTold.cc 508 = .ok (.iload 4, 2) := by decide +kernel
theorem d_Md_readTold_510 : decode jMd_readTold.cc 510 = .ok (.iconst 4, 1) := by decide +kernel
theorem d_Md_readTold_511 : decode jMd_readTold.cc 511 = .ok (.if_icmp .eq 9, 3) := by decide +kernel
theorem d_Md_readTold_514 : decode jMd_readTold.cc 514 = .ok (.iload 4, 2) := by decide +kernel
theorem d_Md_readTold_516 : decode jMd_readTold.cc 516 = .ok (.iconst 5, 1) := by decide +kernel
theorem d_Md_readTold_517 : decode jMd_readTold.cc 517 = .ok (.if_icmp .ne 7, 3) := by decide +kernel
theorem d_Md_readTold_520 : decode jMd_readTold.cc 520 = .ok (.iconst 1, 1) := by decide +kernel
theorem d_Md_readTold_521 : decode jMd_readTold.cc 521 = .ok (.goto 4, 3) := by decide +kernel
theorem d_Md_readTold_524 : decode jMd_readTold.cc 524 = .ok (.iconst 0, 1) := by decide +kernel
theorem d_Md_readTold_525 : decode jMd_readTold.cc 525 = .ok (.iastore, 1) := by decide +kernel
theorem d_Md_readTold_526 : decode jMd_readTold.cc 526 = .ok (.aload_n 0, 1) := by decide +kernel
theorem d_Md_readTold_527 : decode jMd_readTold.cc 527 = .ok (.ldc 130, 2) := by decide +kernel
theorem d_Md_readTold_529 : decode jMd_readTold.cc 529 = .ok (.invokevirtual 420, 3) := by decide +kernel
theorem d_Md_readTold_532 : decode jMd_readTold.cc 532 = .ok (.istore_n 2, 1) := by decide +kernel
theorem d_Md_readTold_533 : decode jMd_readTold.cc 533 = .ok (.aload_n 0, 1) := by decide +kernel
theorem d_Md_readTold_534 : decode jMd_readTold.cc 534 = .ok (.getfield 185, 3) := by decide +kernel
theorem d_Md_readTold_537 : decode jMd_readTold.cc 537 = .ok (.iload_n 1, 1) := by decide +kernel
theorem d_Md_readTold_538 : decode jMd_readTold.cc 538 = .ok (.dup2, 1) := by decide +kernel
theorem d_Md_readTold_539 : decode jMd_readTold.cc 539 = .ok (.iaload, 1) := by decide +kernel
theorem d_Md_readTold_540 : decode jMd_readTold.cc 540 = .ok (.iconst 1, 1) := by decide +kernel
theorem d_Md_readTold_541 : decode jMd_readTold.cc 541 = .ok (.iadd, 1) := by decide +kernel
theorem d_Md_readTold_542 : decode jMd_readTold.cc 542 = .ok (.iastore, 1) := by decide +kernel
theorem d_Md_readTold_543 : decode jMd_readTold.cc 543 = .ok (.aload_n 0, 1) := by decide +kernel
theorem d_Md_readTold_544 : decode jMd_readTold.cc 544 = .ok (.dup, 1) := by decide +kernel
theorem d_Md_readTold_545 : decode jMd_readTold.cc 545 = .ok (.getfield 444, 3) := by decide +kernel
theorem d_Md_readTold_548 : decode jMd_readTold.cc 548 = .ok (.iconst 1, 1) := by decide +kernel
theorem d_Md_readTold_549 : decode jMd_readTold.cc 549 = .ok (.iadd, 1) := by decide +kernel
theorem d_Md_readTold_550 : decode jMd_readTold.cc 550 = .ok (.putfield 444, 3) := by decide +kernel
theorem d_Md_readTold_553 : decode jMd_readTold.cc 553 = .ok (.return_, 1) := by decide +kernel
set_option maxHeartbeats 4000000 in
theorem s_Md_readTold {g : Mg} {d : Nat} {K : Ou → Wd → Prop} {w : Wd} (h : Cal g LM jMd_is d [vA 0, vA 1006] w (fun o w1 => rIt o (fun b => K (.inr b) w1) (fun x2 => (x2 = 0 → (Cal g LM jMd_is d [vA 0, vA 1007] w1 (fun o w3 => rIt o (fun b => K (.inr b) w3) (fun x4 => (x4 = 0 → (Cal g LM jMd_is d [vA 0, vA 1008] w3 (fun o w5 => rIt o (fun b => K (.inr b) w5) (fun x6 => (x6 = 0 → (V g LM jMd_readTold (d + 1) K 40 [(0, vA 0)] [vI 3] w5)) ∧ (¬ x6 = 0 → (V g LM jMd_readTold (d + 1) K 40 [(0, vA 0)] [vI 2] w5)))))) ∧ (¬ x4 = 0 → (V g LM jMd_readTold (d + 1) K 40 [(0, vA 0)] [vI 1] w3)))))) ∧ (¬ x2 = 0 → (V g LM jMd_readTold (d + 1) K 40 [(0, vA 0)] [vI 0] w1))))) : V g LM jMd_readTold (d + 1) K 0 [(0, vA 0)] [] w := by
  refine v_aload_n (pc := 0) d_Md_readTold_0 rfl (.head _) ?_
  refine v_ldcs (pc := 1) (n := 5) (tx := "column") d_Md_readTold_1 (by decide +kernel) ?_
  refine v_callV (pc := 3) (J' := jMd_is) (d' := d) (o := 0) (ci := 13) (N := 93) (T := cT13) (As := [vA 1006]) d_Md_readTold_3 ml_Md_374 cM_0.1 cM_0.2 (by decide) rfl rfl (Nat.le_of_ble_eq_true rfl) (Nat.le_refl _) rfl (Cal.weak h (fun o w1 h => ?_))
  rcases rIt_of h with ⟨x2, rfl, h⟩ | ⟨b, rfl, h⟩
  rotate_left
  · exact h
  refine v_ifeq (pc := 6) (tgt := 13) d_Md_readTold_6 (by decide) (fun c => ?_) (fun c => ?_)
  · replace h := h.1 c
    refine v_aload_n (pc := 13) d_Md_readTold_13 rfl (.head _) ?_
    refine v_ldcs (pc := 14) (n := 6) (tx := "node") d_Md_readTold_14 (by decide +kernel) ?_
    refine v_callV (pc := 16) (J' := jMd_is) (d' := d) (o := 0) (ci := 13) (N := 93) (T := cT13) (As := [vA 1007]) d_Md_readTold_16 ml_Md_374 cM_0.1 cM_0.2 (by decide) rfl rfl (Nat.le_of_ble_eq_true rfl) (Nat.le_refl _) rfl (Cal.weak h (fun o w3 h => ?_))
    rcases rIt_of h with ⟨x4, rfl, h⟩ | ⟨b, rfl, h⟩
    rotate_left
    · exact h
    refine v_ifeq (pc := 19) (tgt := 26) d_Md_readTold_19 (by decide) (fun c => ?_) (fun c => ?_)
    · replace h := h.1 c
      refine v_aload_n (pc := 26) d_Md_readTold_26 rfl (.head _) ?_
      refine v_ldcs (pc := 27) (n := 7) (tx := "fold") d_Md_readTold_27 (by decide +kernel) ?_
      refine v_callV (pc := 29) (J' := jMd_is) (d' := d) (o := 0) (ci := 13) (N := 93) (T := cT13) (As := [vA 1008]) d_Md_readTold_29 ml_Md_374 cM_0.1 cM_0.2 (by decide) rfl rfl (Nat.le_of_ble_eq_true rfl) (Nat.le_refl _) rfl (Cal.weak h (fun o w5 h => ?_))
      rcases rIt_of h with ⟨x6, rfl, h⟩ | ⟨b, rfl, h⟩
      rotate_left
      · exact h
      refine v_ifeq (pc := 32) (tgt := 39) d_Md_readTold_32 (by decide) (fun c => ?_) (fun c => ?_)
      · replace h := h.1 c
        refine v_iconst (pc := 39) d_Md_readTold_39 (by decide) ?_
        exact v_sub (List.forall_mem_cons.mpr ⟨(.head _), (fun _ z => absurd z List.not_mem_nil)⟩) h
      · replace h := h.2 c
        refine v_iconst (pc := 35) d_Md_readTold_35 (by decide) ?_
        refine v_goto (pc := 36) (tgt := 40) d_Md_readTold_36 (by decide) ?_
        exact v_sub (List.forall_mem_cons.mpr ⟨(.head _), (fun _ z => absurd z List.not_mem_nil)⟩) h
    · replace h := h.2 c
      refine v_iconst (pc := 22) d_Md_readTold_22 (by decide) ?_
      refine v_goto (pc := 23) (tgt := 40) d_Md_readTold_23 (by decide) ?_
      exact v_sub (List.forall_mem_cons.mpr ⟨(.head _), (fun _ z => absurd z List.not_mem_nil)⟩) h
  · replace h := h.2 c
    refine v_iconst (pc := 9) d_Md_readTold_9 (by decide) ?_
    refine v_goto (pc := 10) (tgt := 40) d_Md_readTold_10 (by decide) ?_
    exact v_sub (List.forall_mem_cons.mpr ⟨(.head _), (fun _ z => absurd z List.not_mem_nil)⟩) h
set_option maxHeartbeats 4000000 in
theorem s_Md_readTold_40 {g : Mg} {d : Nat} {K : Ou → Wd → Prop} {w : Wd} {s0_ : Int} (h : Cal g LM jMd_pass d [vA 0] w (fun o w1 => rIt o (fun b => K (.inr b) w1) (fun x2 => Cal g LM jMd_mustName d [vA 0] w1 (fun o w3 => rIt o (fun b => K (.inr b) w3) (fun x4 => (0 ≤ s0_ ∧ s0_ < 5) ∧ (Cal g LM jMd_most d [vI s0_] w3 (fun o w5 => rIt o (fun b => K (.inr b) w5) (fun x6 => (¬ (w3 16 s0_.toNat) = x6 → (V g LM jMd_readTold (d + 1) K 77 [(0, vA 0), (1, vI s0_)] [] w5)) ∧ ((w3 16 s0_.toNat) = x6 → (Cal g LM jMd_placeOf d [vA 0, vI (w5 0 11)] w5 (fun o w7 => rIt o (fun b => K (.inr b) w7) (fun x8 => Cal g LM jMd_fail d [vA 0, vI 2, vI x8] w7 (fun o w9 => rVt o (fun b => K (.inr b) w9) (V g LM jMd_readTold (d + 1) K 77 [(0, vA 0), (1, vI s0_)] [] w9)))))))))))))) : V g LM jMd_readTold (d + 1) K 40 [(0, vA 0)] [vI s0_] w := by
  refine v_istore_n (pc := 40) (ls' := [(1, vI s0_), (0, vA 0)]) d_Md_readTold_40 rfl (by decide) rfl ?_
  refine v_aload_n (pc := 41) d_Md_readTold_41 rfl (.tail _ (.head _)) ?_
  refine v_callV (pc := 42) (J' := jMd_pass) (d' := d) (o := 0) (ci := 13) (N := 93) (T := cT13) (As := []) d_Md_readTold_42 ml_Md_378 cM_0.1 cM_0.2 (by decide) rfl rfl (Nat.le_of_ble_eq_true rfl) (Nat.le_refl _) rfl (Cal.weak h (fun o w1 h => ?_))
  rcases rIt_of h with ⟨x2, rfl, h⟩ | ⟨b, rfl, h⟩
  rotate_left
  · exact h
  refine v_istore_n (pc := 45) (ls' := [(2, vI x2), (1, vI s0_), (0, vA 0)]) d_Md_readTold_45 rfl (by decide) rfl ?_
  refine v_aload_n (pc := 46) d_Md_readTold_46 rfl (.tail _ (.tail _ (.head _))) ?_
  refine v_callV (pc := 47) (J' := jMd_mustName) (d' := d) (o := 0) (ci := 13) (N := 93) (T := cT13) (As := []) d_Md_readTold_47 ml_Md_424 cM_0.1 cM_0.2 (by decide) rfl rfl (Nat.le_of_ble_eq_true rfl) (Nat.le_refl _) rfl (Cal.weak h (fun o w3 h => ?_))
  rcases rIt_of h with ⟨x4, rfl, h⟩ | ⟨b, rfl, h⟩
  rotate_left
  · exact h
  refine v_istore_n (pc := 50) (ls' := [(2, vI x4), (1, vI s0_), (0, vA 0)]) d_Md_readTold_50 rfl (by decide) rfl ?_
  refine v_aload_n (pc := 51) d_Md_readTold_51 rfl (.tail _ (.tail _ (.head _))) ?_
  refine v_getr (C := "") (pc := 52) (r := 16) d_Md_readTold_52 fl_Md_185 cM_0.1 cM_0.2 (Or.inr ⟨_, rfl⟩) rM_0_21 ?_
  refine v_iload_n (pc := 55) d_Md_readTold_55 rfl (.tail _ (.head _)) ?_
  refine v_iald (pc := 56) (x := (w3 16 s0_.toNat)) d_Md_readTold_56 cM_16.1 cM_16.2 rfl h.1 ?_
  replace h := h.2
  refine v_iload_n (pc := 57) d_Md_readTold_57 rfl (.tail _ (.head _)) ?_
  refine v_callS (pc := 58) (J' := jMd_most) (d' := d) (As := [vI s0_]) d_Md_readTold_58 ml_Md_442 rfl (Nat.le_of_ble_eq_true rfl) (Nat.le_refl _) rfl (Cal.weak h (fun o w5 h => ?_))
  rcases rIt_of h with ⟨x6, rfl, h⟩ | ⟨b, rfl, h⟩
  rotate_left
  · exact h
  refine v_icmpne (pc := 61) (tgt := 77) d_Md_readTold_61 (by decide) (fun c => ?_) (fun c => ?_)
  · replace h := h.1 c
    exact v_sub (List.forall_mem_cons.mpr ⟨(.tail _ (.tail _ (.head _))), (List.forall_mem_cons.mpr ⟨(.tail _ (.head _)), (fun _ z => absurd z List.not_mem_nil)⟩)⟩) h
  · replace h := h.2 c
    refine v_aload_n (pc := 64) d_Md_readTold_64 rfl (.tail _ (.tail _ (.head _))) ?_
    refine v_iconst (pc := 65) d_Md_readTold_65 (by decide) ?_
    refine v_aload_n (pc := 66) d_Md_readTold_66 rfl (.tail _ (.tail _ (.head _))) ?_
    refine v_aload_n (pc := 67) d_Md_readTold_67 rfl (.tail _ (.tail _ (.head _))) ?_
    refine v_geti (pc := 68) (x := (w5 0 11)) d_Md_readTold_68 fl_Md_363 cM_0.1 cM_0.2 (Or.inl rfl) rfl ?_
    refine v_callV (pc := 71) (J' := jMd_placeOf) (d' := d) (o := 0) (ci := 13) (N := 93) (T := cT13) (As := [vI (w5 0 11)]) d_Md_readTold_71 ml_Md_366 cM_0.1 cM_0.2 (by decide) rfl rfl (Nat.le_of_ble_eq_true rfl) (Nat.le_refl _) rfl (Cal.weak h (fun o w7 h => ?_))
    rcases rIt_of h with ⟨x8, rfl, h⟩ | ⟨b, rfl, h⟩
    rotate_left
    · exact h
    refine v_callV (pc := 74) (J' := jMd_fail) (d' := d) (o := 0) (ci := 13) (N := 93) (T := cT13) (As := [vI 2, vI x8]) d_Md_readTold_74 ml_Md_370 cM_0.1 cM_0.2 (by decide) rfl rfl (Nat.le_of_ble_eq_true rfl) (Nat.le_refl _) rfl (Cal.weak h (fun o w9 h => ?_))
    rcases rVt_of h with ⟨rfl, h⟩ | ⟨b, rfl, h⟩
    rotate_left
    · exact h
    exact v_sub (List.forall_mem_cons.mpr ⟨(.tail _ (.tail _ (.head _))), (List.forall_mem_cons.mpr ⟨(.tail _ (.head _)), (fun _ z => absurd z List.not_mem_nil)⟩)⟩) h
set_option maxHeartbeats 4000000 in
theorem s_Md_readTold_77 {g : Mg} {d : Nat} {K : Ou → Wd → Prop} {w : Wd} {x1_ : Int} (h : (0 ≤ (w 0 20) ∧ (w 0 20) < 30) ∧ (Cal g LM jMd_pass d [vA 0] (up w 10 ((w 0 20).toNat) x1_) (fun o w1 => rIt o (fun b => K (.inr b) w1) (fun x2 => (0 ≤ (w 0 20) ∧ (w 0 20) < 30) ∧ ((0 ≤ (w 0 20) ∧ (w 0 20) < 30) ∧ ((0 ≤ (w 0 20) ∧ (w 0 20) < 30) ∧ ((0 ≤ (w 0 20) ∧ (w 0 20) < 30) ∧ ((¬ x1_ = 1 → ((x1_ = 0 → (V g LM jMd_readTold (d + 1) K 526 [(0, vA 0), (1, vI x1_)] [] (up (up (up (up w1 11 ((w 0 20).toNat) x2) 12 ((w 0 20).toNat) 0) 14 ((w 0 20).toNat) (-2)) 15 ((w 0 20).toNat) (-2)))) ∧ (¬ x1_ = 0 → (Cal g LM jMd_must d [vA 0, vA 1050] (up (up (up (up w1 11 ((w 0 20).toNat) x2) 12 ((w 0 20).toNat) 0) 14 ((w 0 20).toNat) (-2)) 15 ((w 0 20).toNat) (-2)) (fun o w3 => rIt o (fun b => K (.inr b) w3) (fun x4 => Cal g LM jMd_is d [vA 0, vA 1014] w3 (fun o w5 => rIt o (fun b => K (.inr b) w5) (fun x6 => (x6 = 0 → (Cal g LM jMd_is d [vA 0, vA 1015] w5 (fun o w7 => rIt o (fun b => K (.inr b) w7) (fun x8 => (x8 = 0 → (Cal g LM jMd_is d [vA 0, vA 1016] w7 (fun o w9 => rIt o (fun b => K (.inr b) w9) (fun x10 => (x10 = 0 → (Cal g LM jMd_is d [vA 0, vA 1017] w9 (fun o w11 => rIt o (fun b => K (.inr b) w11) (fun x12 => (x12 = 0 → (Cal g LM jMd_is d [vA 0, vA 1018] w11 (fun o w13 => rIt o (fun b => K (.inr b) w13) (fun x14 => (x14 = 0 → (Cal g LM jMd_is d [vA 0, vA 1019] w13 (fun o w15 => rIt o (fun b => K (.inr b) w15) (fun x16 => (x16 = 0 → (V g LM jMd_readTold (d + 1) K 465 [(0, vA 0), (1, vI x1_), (3, vI (w 0 20))] [vI (-2)] w15)) ∧ (¬ x16 = 0 → (V g LM jMd_readTold (d + 1) K 465 [(0, vA 0), (1, vI x1_), (3, vI (w 0 20))] [vI 5] w15)))))) ∧ (¬ x14 = 0 → (V g LM jMd_readTold (d + 1) K 465 [(0, vA 0), (1, vI x1_), (3, vI (w 0 20))] [vI 4] w13)))))) ∧ (¬ x12 = 0 → (V g LM jMd_readTold (d + 1) K 465 [(0, vA 0), (1, vI x1_), (3, vI (w 0 20))] [vI 3] w11)))))) ∧ (¬ x10 = 0 → (V g LM jMd_readTold (d + 1) K 465 [(0, vA 0), (1, vI x1_), (3, vI (w 0 20))] [vI 2] w9)))))) ∧ (¬ x8 = 0 → (V g LM jMd_readTold (d + 1) K 465 [(0, vA 0), (1, vI x1_), (3, vI (w 0 20))] [vI 1] w7)))))) ∧ (¬ x6 = 0 → (V g LM jMd_readTold (d + 1) K 465 [(0, vA 0), (1, vI x1_), (3, vI (w 0 20))] [vI 0] w5)))))))))) ∧ (x1_ = 1 → (Cal g LM jMd_must d [vA 0, vA 1050] (up (up (up (up w1 11 ((w 0 20).toNat) x2) 12 ((w 0 20).toNat) 0) 14 ((w 0 20).toNat) (-2)) 15 ((w 0 20).toNat) (-2)) (fun o w17 => rIt o (fun b => K (.inr b) w17) (fun x18 => Cal g LM jMd_is d [vA 0, vA 1010] w17 (fun o w19 => rIt o (fun b => K (.inr b) w19) (fun x20 => (¬ x20 = 0 → (V g LM jMd_readTold (d + 1) K 165 [(0, vA 0), (1, vI x1_), (3, vI (w 0 20))] [] w19)) ∧ (x20 = 0 → (Cal g LM jMd_is d [vA 0, vA 1011] w19 (fun o w21 => rIt o (fun b => K (.inr b) w21) (fun x22 => (¬ x22 = 0 → (V g LM jMd_readTold (d + 1) K 165 [(0, vA 0), (1, vI x1_), (3, vI (w 0 20))] [] w21)) ∧ (x22 = 0 → (Cal g LM jMd_placeOf d [vA 0, vI (w21 0 11)] w21 (fun o w23 => rIt o (fun b => K (.inr b) w23) (fun x24 => Cal g LM jMd_fail d [vA 0, vI 1, vI x24] w23 (fun o w25 => rVt o (fun b => K (.inr b) w25) (V g LM jMd_readTold (d + 1) K 165 [(0, vA 0), (1, vI x1_), (3, vI (w 0 20))] [] w25)))))))))))))))))))))))) : V g LM jMd_readTold (d + 1) K 77 [(0, vA 0), (1, vI x1_)] [] w := by
  refine v_aload_n (pc := 77) d_Md_readTold_77 rfl (.head _) ?_
  refine v_geti (pc := 78) (x := (w 0 20)) d_Md_readTold_78 fl_Md_444 cM_0.1 cM_0.2 (Or.inl rfl) rfl ?_
  refine v_istore_n (pc := 81) (ls' := [(3, vI (w 0 20)), (0, vA 0), (1, vI x1_)]) d_Md_readTold_81 rfl (by decide) rfl ?_
  refine v_aload_n (pc := 82) d_Md_readTold_82 rfl (.tail _ (.head _)) ?_
  refine v_getr (C := "") (pc := 83) (r := 10) d_Md_readTold_83 fl_Md_167 cM_0.1 cM_0.2 (Or.inr ⟨_, rfl⟩) rM_0_14 ?_
  refine v_iload_n (pc := 86) d_Md_readTold_86 rfl (.head _) ?_
  refine v_iload_n (pc := 87) d_Md_readTold_87 rfl (.tail _ (.tail _ (.head _))) ?_
  refine v_iast (pc := 88) d_Md_readTold_88 cM_10.1 cM_10.2 (aM_10 _) h.1 ?_
  replace h := h.2
  refine v_aload_n (pc := 89) d_Md_readTold_89 rfl (.tail _ (.head _)) ?_
  refine v_getr (C := "") (pc := 90) (r := 11) d_Md_readTold_90 fl_Md_170 cM_0.1 cM_0.2 (Or.inr ⟨_, rfl⟩) rM_0_15 ?_
  refine v_iload_n (pc := 93) d_Md_readTold_93 rfl (.head _) ?_
  refine v_aload_n (pc := 94) d_Md_readTold_94 rfl (.tail _ (.head _)) ?_
  refine v_callV (pc := 95) (J' := jMd_pass) (d' := d) (o := 0) (ci := 13) (N := 93) (T := cT13) (As := []) d_Md_readTold_95 ml_Md_378 cM_0.1 cM_0.2 (by decide) rfl rfl (Nat.le_of_ble_eq_true rfl) (Nat.le_refl _) rfl (Cal.weak h (fun o w1 h => ?_))
  rcases rIt_of h with ⟨x2, rfl, h⟩ | ⟨b, rfl, h⟩
  rotate_left
  · exact h
  refine v_iast (pc := 98) d_Md_readTold_98 cM_11.1 cM_11.2 (aM_11 _) h.1 ?_
  replace h := h.2
  refine v_aload_n (pc := 99) d_Md_readTold_99 rfl (.tail _ (.head _)) ?_
  refine v_getr (C := "") (pc := 100) (r := 12) d_Md_readTold_100 fl_Md_173 cM_0.1 cM_0.2 (Or.inr ⟨_, rfl⟩) rM_0_16 ?_
  refine v_iload_n (pc := 103) d_Md_readTold_103 rfl (.head _) ?_
  refine v_iconst (pc := 104) d_Md_readTold_104 (by decide) ?_
  refine v_iast (pc := 105) d_Md_readTold_105 cM_12.1 cM_12.2 (aM_12 _) h.1 ?_
  replace h := h.2
  refine v_aload_n (pc := 106) d_Md_readTold_106 rfl (.tail _ (.head _)) ?_
  refine v_getr (C := "") (pc := 107) (r := 14) d_Md_readTold_107 fl_Md_179 cM_0.1 cM_0.2 (Or.inr ⟨_, rfl⟩) rM_0_18 ?_
  refine v_iload_n (pc := 110) d_Md_readTold_110 rfl (.head _) ?_
  refine v_bipush (pc := 111) d_Md_readTold_111 (by decide) rfl ?_
  refine v_iast (pc := 113) d_Md_readTold_113 cM_14.1 cM_14.2 (aM_14 _) h.1 ?_
  replace h := h.2
  refine v_aload_n (pc := 114) d_Md_readTold_114 rfl (.tail _ (.head _)) ?_
  refine v_getr (C := "") (pc := 115) (r := 15) d_Md_readTold_115 fl_Md_182 cM_0.1 cM_0.2 (Or.inr ⟨_, rfl⟩) rM_0_19 ?_
  refine v_iload_n (pc := 118) d_Md_readTold_118 rfl (.head _) ?_
  refine v_bipush (pc := 119) d_Md_readTold_119 (by decide) rfl ?_
  refine v_iast (pc := 121) d_Md_readTold_121 cM_15.1 cM_15.2 (aM_15 _) h.1 ?_
  replace h := h.2
  refine v_iload_n (pc := 122) d_Md_readTold_122 rfl (.tail _ (.tail _ (.head _))) ?_
  refine v_iconst (pc := 123) d_Md_readTold_123 (by decide) ?_
  refine v_icmpne (pc := 124) (tgt := 374) d_Md_readTold_124 (by decide) (fun c => ?_) (fun c => ?_)
  · replace h := h.1 c
    refine v_iload_n (pc := 374) d_Md_readTold_374 rfl (.tail _ (.tail _ (.head _))) ?_
    refine v_ifeq (pc := 375) (tgt := 526) d_Md_readTold_375 (by decide) (fun c => ?_) (fun c => ?_)
    · replace h := h.1 c
      exact v_sub (List.forall_mem_cons.mpr ⟨(.tail _ (.head _)), (List.forall_mem_cons.mpr ⟨(.tail _ (.tail _ (.head _))), (fun _ z => absurd z List.not_mem_nil)⟩)⟩) h
    · replace h := h.2 c
      refine v_aload_n (pc := 378) d_Md_readTold_378 rfl (.tail _ (.head _)) ?_
      refine v_ldcs (pc := 379) (n := 49) (tx := ":") d_Md_readTold_379 (by decide +kernel) ?_
      refine v_callV (pc := 381) (J' := jMd_must) (d' := d) (o := 0) (ci := 13) (N := 93) (T := cT13) (As := [vA 1050]) d_Md_readTold_381 ml_Md_420 cM_0.1 cM_0.2 (by decide) rfl rfl (Nat.le_of_ble_eq_true rfl) (Nat.le_refl _) rfl (Cal.weak h (fun o w3 h => ?_))
      rcases rIt_of h with ⟨x4, rfl, h⟩ | ⟨b, rfl, h⟩
      rotate_left
      · exact h
      refine v_istore_n (pc := 384) (ls' := [(2, vI x4), (3, vI (w 0 20)), (0, vA 0), (1, vI x1_)]) d_Md_readTold_384 rfl (by decide) rfl ?_
      refine v_aload_n (pc := 385) d_Md_readTold_385 rfl (.tail _ (.tail _ (.head _))) ?_
      refine v_ldcs (pc := 386) (n := 13) (tx := "sum") d_Md_readTold_386 (by decide +kernel) ?_
      refine v_callV (pc := 388) (J' := jMd_is) (d' := d) (o := 0) (ci := 13) (N := 93) (T := cT13) (As := [vA 1014]) d_Md_readTold_388 ml_Md_374 cM_0.1 cM_0.2 (by decide) rfl rfl (Nat.le_of_ble_eq_true rfl) (Nat.le_refl _) rfl (Cal.weak h (fun o w5 h => ?_))
      rcases rIt_of h with ⟨x6, rfl, h⟩ | ⟨b, rfl, h⟩
      rotate_left
      · exact h
      refine v_ifeq (pc := 391) (tgt := 398) d_Md_readTold_391 (by decide) (fun c => ?_) (fun c => ?_)
      · replace h := h.1 c
        refine v_aload_n (pc := 398) d_Md_readTold_398 rfl (.tail _ (.tail _ (.head _))) ?_
        refine v_ldcs (pc := 399) (n := 14) (tx := "least") d_Md_readTold_399 (by decide +kernel) ?_
        refine v_callV (pc := 401) (J' := jMd_is) (d' := d) (o := 0) (ci := 13) (N := 93) (T := cT13) (As := [vA 1015]) d_Md_readTold_401 ml_Md_374 cM_0.1 cM_0.2 (by decide) rfl rfl (Nat.le_of_ble_eq_true rfl) (Nat.le_refl _) rfl (Cal.weak h (fun o w7 h => ?_))
        rcases rIt_of h with ⟨x8, rfl, h⟩ | ⟨b, rfl, h⟩
        rotate_left
        · exact h
        refine v_ifeq (pc := 404) (tgt := 411) d_Md_readTold_404 (by decide) (fun c => ?_) (fun c => ?_)
        · replace h := h.1 c
          refine v_aload_n (pc := 411) d_Md_readTold_411 rfl (.tail _ (.tail _ (.head _))) ?_
          refine v_ldcs (pc := 412) (n := 15) (tx := "most") d_Md_readTold_412 (by decide +kernel) ?_
          refine v_callV (pc := 414) (J' := jMd_is) (d' := d) (o := 0) (ci := 13) (N := 93) (T := cT13) (As := [vA 1016]) d_Md_readTold_414 ml_Md_374 cM_0.1 cM_0.2 (by decide) rfl rfl (Nat.le_of_ble_eq_true rfl) (Nat.le_refl _) rfl (Cal.weak h (fun o w9 h => ?_))
          rcases rIt_of h with ⟨x10, rfl, h⟩ | ⟨b, rfl, h⟩
          rotate_left
          · exact h
          refine v_ifeq (pc := 417) (tgt := 424) d_Md_readTold_417 (by decide) (fun c => ?_) (fun c => ?_)
          · replace h := h.1 c
            refine v_aload_n (pc := 424) d_Md_readTold_424 rfl (.tail _ (.tail _ (.head _))) ?_
            refine v_ldcs (pc := 425) (n := 16) (tx := "first") d_Md_readTold_425 (by decide +kernel) ?_
            refine v_callV (pc := 427) (J' := jMd_is) (d' := d) (o := 0) (ci := 13) (N := 93) (T := cT13) (As := [vA 1017]) d_Md_readTold_427 ml_Md_374 cM_0.1 cM_0.2 (by decide) rfl rfl (Nat.le_of_ble_eq_true rfl) (Nat.le_refl _) rfl (Cal.weak h (fun o w11 h => ?_))
            rcases rIt_of h with ⟨x12, rfl, h⟩ | ⟨b, rfl, h⟩
            rotate_left
            · exact h
            refine v_ifeq (pc := 430) (tgt := 437) d_Md_readTold_430 (by decide) (fun c => ?_) (fun c => ?_)
            · replace h := h.1 c
              refine v_aload_n (pc := 437) d_Md_readTold_437 rfl (.tail _ (.tail _ (.head _))) ?_
              refine v_ldcs (pc := 438) (n := 17) (tx := "all") d_Md_readTold_438 (by decide +kernel) ?_
              refine v_callV (pc := 440) (J' := jMd_is) (d' := d) (o := 0) (ci := 13) (N := 93) (T := cT13) (As := [vA 1018]) d_Md_readTold_440 ml_Md_374 cM_0.1 cM_0.2 (by decide) rfl rfl (Nat.le_of_ble_eq_true rfl) (Nat.le_refl _) rfl (Cal.weak h (fun o w13 h => ?_))
              rcases rIt_of h with ⟨x14, rfl, h⟩ | ⟨b, rfl, h⟩
              rotate_left
              · exact h
              refine v_ifeq (pc := 443) (tgt := 450) d_Md_readTold_443 (by decide) (fun c => ?_) (fun c => ?_)
              · replace h := h.1 c
                refine v_aload_n (pc := 450) d_Md_readTold_450 rfl (.tail _ (.tail _ (.head _))) ?_
                refine v_ldcs (pc := 451) (n := 18) (tx := "some") d_Md_readTold_451 (by decide +kernel) ?_
                refine v_callV (pc := 453) (J' := jMd_is) (d' := d) (o := 0) (ci := 13) (N := 93) (T := cT13) (As := [vA 1019]) d_Md_readTold_453 ml_Md_374 cM_0.1 cM_0.2 (by decide) rfl rfl (Nat.le_of_ble_eq_true rfl) (Nat.le_refl _) rfl (Cal.weak h (fun o w15 h => ?_))
                rcases rIt_of h with ⟨x16, rfl, h⟩ | ⟨b, rfl, h⟩
                rotate_left
                · exact h
                refine v_ifeq (pc := 456) (tgt := 463) d_Md_readTold_456 (by decide) (fun c => ?_) (fun c => ?_)
                · replace h := h.1 c
                  refine v_bipush (pc := 463) d_Md_readTold_463 (by decide) rfl ?_
                  exact v_sub (List.forall_mem_cons.mpr ⟨(.tail _ (.tail _ (.head _))), (List.forall_mem_cons.mpr ⟨(.tail _ (.tail _ (.tail _ (.head _)))), (List.forall_mem_cons.mpr ⟨(.tail _ (.head _)), (fun _ z => absurd z List.not_mem_nil)⟩)⟩)⟩) h
                · replace h := h.2 c
                  refine v_iconst (pc := 459) d_Md_readTold_459 (by decide) ?_
                  refine v_goto (pc := 460) (tgt := 465) d_Md_readTold_460 (by decide) ?_
                  exact v_sub (List.forall_mem_cons.mpr ⟨(.tail _ (.tail _ (.head _))), (List.forall_mem_cons.mpr ⟨(.tail _ (.tail _ (.tail _ (.head _)))), (List.forall_mem_cons.mpr ⟨(.tail _ (.head _)), (fun _ z => absurd z List.not_mem_nil)⟩)⟩)⟩) h
              · replace h := h.2 c
                refine v_iconst (pc := 446) d_Md_readTold_446 (by decide) ?_
                refine v_goto (pc := 447) (tgt := 465) d_Md_readTold_447 (by decide) ?_
                exact v_sub (List.forall_mem_cons.mpr ⟨(.tail _ (.tail _ (.head _))), (List.forall_mem_cons.mpr ⟨(.tail _ (.tail _ (.tail _ (.head _)))), (List.forall_mem_cons.mpr ⟨(.tail _ (.head _)), (fun _ z => absurd z List.not_mem_nil)⟩)⟩)⟩) h
            · replace h := h.2 c
              refine v_iconst (pc := 433) d_Md_readTold_433 (by decide) ?_
              refine v_goto (pc := 434) (tgt := 465) d_Md_readTold_434 (by decide) ?_
              exact v_sub (List.forall_mem_cons.mpr ⟨(.tail _ (.tail _ (.head _))), (List.forall_mem_cons.mpr ⟨(.tail _ (.tail _ (.tail _ (.head _)))), (List.forall_mem_cons.mpr ⟨(.tail _ (.head _)), (fun _ z => absurd z List.not_mem_nil)⟩)⟩)⟩) h
          · replace h := h.2 c
            refine v_iconst (pc := 420) d_Md_readTold_420 (by decide) ?_
            refine v_goto (pc := 421) (tgt := 465) d_Md_readTold_421 (by decide) ?_
            exact v_sub (List.forall_mem_cons.mpr ⟨(.tail _ (.tail _ (.head _))), (List.forall_mem_cons.mpr ⟨(.tail _ (.tail _ (.tail _ (.head _)))), (List.forall_mem_cons.mpr ⟨(.tail _ (.head _)), (fun _ z => absurd z List.not_mem_nil)⟩)⟩)⟩) h
        · replace h := h.2 c
          refine v_iconst (pc := 407) d_Md_readTold_407 (by decide) ?_
          refine v_goto (pc := 408) (tgt := 465) d_Md_readTold_408 (by decide) ?_
          exact v_sub (List.forall_mem_cons.mpr ⟨(.tail _ (.tail _ (.head _))), (List.forall_mem_cons.mpr ⟨(.tail _ (.tail _ (.tail _ (.head _)))), (List.forall_mem_cons.mpr ⟨(.tail _ (.head _)), (fun _ z => absurd z List.not_mem_nil)⟩)⟩)⟩) h
      · replace h := h.2 c
        refine v_iconst (pc := 394) d_Md_readTold_394 (by decide) ?_
        refine v_goto (pc := 395) (tgt := 465) d_Md_readTold_395 (by decide) ?_
        exact v_sub (List.forall_mem_cons.mpr ⟨(.tail _ (.tail _ (.head _))), (List.forall_mem_cons.mpr ⟨(.tail _ (.tail _ (.tail _ (.head _)))), (List.forall_mem_cons.mpr ⟨(.tail _ (.head _)), (fun _ z => absurd z List.not_mem_nil)⟩)⟩)⟩) h
  · replace h := h.2 c
    refine v_aload_n (pc := 127) d_Md_readTold_127 rfl (.tail _ (.head _)) ?_
    refine v_ldcs (pc := 128) (n := 49) (tx := ":") d_Md_readTold_128 (by decide +kernel) ?_
    refine v_callV (pc := 130) (J' := jMd_must) (d' := d) (o := 0) (ci := 13) (N := 93) (T := cT13) (As := [vA 1050]) d_Md_readTold_130 ml_Md_420 cM_0.1 cM_0.2 (by decide) rfl rfl (Nat.le_of_ble_eq_true rfl) (Nat.le_refl _) rfl (Cal.weak h (fun o w17 h => ?_))
    rcases rIt_of h with ⟨x18, rfl, h⟩ | ⟨b, rfl, h⟩
    rotate_left
    · exact h
    refine v_istore_n (pc := 133) (ls' := [(2, vI x18), (3, vI (w 0 20)), (0, vA 0), (1, vI x1_)]) d_Md_readTold_133 rfl (by decide) rfl ?_
    refine v_aload_n (pc := 134) d_Md_readTold_134 rfl (.tail _ (.tail _ (.head _))) ?_
    refine v_ldcs (pc := 135) (n := 9) (tx := "int") d_Md_readTold_135 (by decide +kernel) ?_
    refine v_callV (pc := 137) (J' := jMd_is) (d' := d) (o := 0) (ci := 13) (N := 93) (T := cT13) (As := [vA 1010]) d_Md_readTold_137 ml_Md_374 cM_0.1 cM_0.2 (by decide) rfl rfl (Nat.le_of_ble_eq_true rfl) (Nat.le_refl _) rfl (Cal.weak h (fun o w19 h => ?_))
    rcases rIt_of h with ⟨x20, rfl, h⟩ | ⟨b, rfl, h⟩
    rotate_left
    · exact h
    refine v_ifne (pc := 140) (tgt := 165) d_Md_readTold_140 (by decide) (fun c => ?_) (fun c => ?_)
    · replace h := h.1 c
      exact v_sub (List.forall_mem_cons.mpr ⟨(.tail _ (.tail _ (.head _))), (List.forall_mem_cons.mpr ⟨(.tail _ (.tail _ (.tail _ (.head _)))), (List.forall_mem_cons.mpr ⟨(.tail _ (.head _)), (fun _ z => absurd z List.not_mem_nil)⟩)⟩)⟩) h
    · replace h := h.2 c
      refine v_aload_n (pc := 143) d_Md_readTold_143 rfl (.tail _ (.tail _ (.head _))) ?_
      refine v_ldcs (pc := 144) (n := 10) (tx := "bool") d_Md_readTold_144 (by decide +kernel) ?_
      refine v_callV (pc := 146) (J' := jMd_is) (d' := d) (o := 0) (ci := 13) (N := 93) (T := cT13) (As := [vA 1011]) d_Md_readTold_146 ml_Md_374 cM_0.1 cM_0.2 (by decide) rfl rfl (Nat.le_of_ble_eq_true rfl) (Nat.le_refl _) rfl (Cal.weak h (fun o w21 h => ?_))
      rcases rIt_of h with ⟨x22, rfl, h⟩ | ⟨b, rfl, h⟩
      rotate_left
      · exact h
      refine v_ifne (pc := 149) (tgt := 165) d_Md_readTold_149 (by decide) (fun c => ?_) (fun c => ?_)
      · replace h := h.1 c
        exact v_sub (List.forall_mem_cons.mpr ⟨(.tail _ (.tail _ (.head _))), (List.forall_mem_cons.mpr ⟨(.tail _ (.tail _ (.tail _ (.head _)))), (List.forall_mem_cons.mpr ⟨(.tail _ (.head _)), (fun _ z => absurd z List.not_mem_nil)⟩)⟩)⟩) h
      · replace h := h.2 c
        refine v_aload_n (pc := 152) d_Md_readTold_152 rfl (.tail _ (.tail _ (.head _))) ?_
        refine v_iconst (pc := 153) d_Md_readTold_153 (by decide) ?_
        refine v_aload_n (pc := 154) d_Md_readTold_154 rfl (.tail _ (.tail _ (.head _))) ?_
        refine v_aload_n (pc := 155) d_Md_readTold_155 rfl (.tail _ (.tail _ (.head _))) ?_
        refine v_geti (pc := 156) (x := (w21 0 11)) d_Md_readTold_156 fl_Md_363 cM_0.1 cM_0.2 (Or.inl rfl) rfl ?_
        refine v_callV (pc := 159) (J' := jMd_placeOf) (d' := d) (o := 0) (ci := 13) (N := 93) (T := cT13) (As := [vI (w21 0 11)]) d_Md_readTold_159 ml_Md_366 cM_0.1 cM_0.2 (by decide) rfl rfl (Nat.le_of_ble_eq_true rfl) (Nat.le_refl _) rfl (Cal.weak h (fun o w23 h => ?_))
        rcases rIt_of h with ⟨x24, rfl, h⟩ | ⟨b, rfl, h⟩
        rotate_left
        · exact h
        refine v_callV (pc := 162) (J' := jMd_fail) (d' := d) (o := 0) (ci := 13) (N := 93) (T := cT13) (As := [vI 1, vI x24]) d_Md_readTold_162 ml_Md_370 cM_0.1 cM_0.2 (by decide) rfl rfl (Nat.le_of_ble_eq_true rfl) (Nat.le_refl _) rfl (Cal.weak h (fun o w25 h => ?_))
        rcases rVt_of h with ⟨rfl, h⟩ | ⟨b, rfl, h⟩
        rotate_left
        · exact h
        exact v_sub (List.forall_mem_cons.mpr ⟨(.tail _ (.tail _ (.head _))), (List.forall_mem_cons.mpr ⟨(.tail _ (.tail _ (.tail _ (.head _)))), (List.forall_mem_cons.mpr ⟨(.tail _ (.head _)), (fun _ z => absurd z List.not_mem_nil)⟩)⟩)⟩) h
set_option maxHeartbeats 4000000 in
theorem s_Md_readTold_526 {g : Mg} {d : Nat} {K : Ou → Wd → Prop} {w : Wd} {x1_ : Int} (h : Cal g LM jMd_must d [vA 0, vA 1043] w (fun o w1 => rIt o (fun b => K (.inr b) w1) (fun x2 => (0 ≤ x1_ ∧ x1_ < 5) ∧ ((0 ≤ x1_ ∧ x1_ < 5) ∧ (K (.inl none) (up (up w1 16 (x1_.toNat) (wr ((w1 16 x1_.toNat) + 1))) 0 20 (wr ((w1 0 20) + 1)))))))) : V g LM jMd_readTold (d + 1) K 526 [(0, vA 0), (1, vI x1_)] [] w := by
  refine v_aload_n (pc := 526) d_Md_readTold_526 rfl (.head _) ?_
  refine v_ldcs (pc := 527) (n := 42) (tx := ";") d_Md_readTold_527 (by decide +kernel) ?_
  refine v_callV (pc := 529) (J' := jMd_must) (d' := d) (o := 0) (ci := 13) (N := 93) (T := cT13) (As := [vA 1043]) d_Md_readTold_529 ml_Md_420 cM_0.1 cM_0.2 (by decide) rfl rfl (Nat.le_of_ble_eq_true rfl) (Nat.le_refl _) rfl (Cal.weak h (fun o w1 h => ?_))
  rcases rIt_of h with ⟨x2, rfl, h⟩ | ⟨b, rfl, h⟩
  rotate_left
  · exact h
  refine v_istore_n (pc := 532) (ls' := [(2, vI x2), (0, vA 0), (1, vI x1_)]) d_Md_readTold_532 rfl (by decide) rfl ?_
  refine v_aload_n (pc := 533) d_Md_readTold_533 rfl (.tail _ (.head _)) ?_
  refine v_getr (C := "") (pc := 534) (r := 16) d_Md_readTold_534 fl_Md_185 cM_0.1 cM_0.2 (Or.inr ⟨_, rfl⟩) rM_0_21 ?_
  refine v_iload_n (pc := 537) d_Md_readTold_537 rfl (.tail _ (.tail _ (.head _))) ?_
  refine v_dup2 (pc := 538) d_Md_readTold_538 rfl rfl ?_
  refine v_iald (pc := 539) (x := (w1 16 x1_.toNat)) d_Md_readTold_539 cM_16.1 cM_16.2 rfl h.1 ?_
  replace h := h.2
  refine v_iconst (pc := 540) d_Md_readTold_540 (by decide) ?_
  refine v_iadd (pc := 541) d_Md_readTold_541 ?_
  refine v_iast (pc := 542) d_Md_readTold_542 cM_16.1 cM_16.2 (aM_16 _) h.1 ?_
  replace h := h.2
  refine v_aload_n (pc := 543) d_Md_readTold_543 rfl (.tail _ (.head _)) ?_
  refine v_dup (pc := 544) d_Md_readTold_544 rfl ?_
  refine v_geti (pc := 545) (x := (w1 0 20)) d_Md_readTold_545 fl_Md_444 cM_0.1 cM_0.2 (Or.inl rfl) rfl ?_
  refine v_iconst (pc := 548) d_Md_readTold_548 (by decide) ?_
  refine v_iadd (pc := 549) d_Md_readTold_549 ?_
  refine v_puti (pc := 550) d_Md_readTold_550 fp_Md_444 cM_0.1 cM_0.2 (by decide) rfl ?_
  exact v_vret (pc := 553) d_Md_readTold_553 rfl h
set_option maxHeartbeats 4000000 in
theorem s_Md_readTold_465 {g : Mg} {d : Nat} {K : Ou → Wd → Prop} {w : Wd} {x1_ : Int} {x3_ : Int} {s0_ : Int} (h : (0 ≤ s0_ → (V g LM jMd_readTold (d + 1) K 485 [(0, vA 0), (1, vI x1_), (3, vI x3_), (4, vI s0_)] [] w)) ∧ (¬ 0 ≤ s0_ → (Cal g LM jMd_placeOf d [vA 0, vI (w 0 11)] w (fun o w1 => rIt o (fun b => K (.inr b) w1) (fun x2 => Cal g LM jMd_fail d [vA 0, vI 1, vI x2] w1 (fun o w3 => rVt o (fun b => K (.inr b) w3) (V g LM jMd_readTold (d + 1) K 485 [(0, vA 0), (1, vI x1_), (3, vI x3_), (4, vI s0_)] [] w3))))))) : V g LM jMd_readTold (d + 1) K 465 [(0, vA 0), (1, vI x1_), (3, vI x3_)] [vI s0_] w := by
  refine v_istore (pc := 465) (ls' := [(4, vI s0_), (0, vA 0), (1, vI x1_), (3, vI x3_)]) d_Md_readTold_465 (by decide) rfl ?_
  refine v_iload (pc := 467) d_Md_readTold_467 (.head _) ?_
  refine v_ifge (pc := 469) (tgt := 485) d_Md_readTold_469 (by decide) (fun c => ?_) (fun c => ?_)
  · replace h := h.1 c
    exact v_sub (List.forall_mem_cons.mpr ⟨(.tail _ (.head _)), (List.forall_mem_cons.mpr ⟨(.tail _ (.tail _ (.head _))), (List.forall_mem_cons.mpr ⟨(.tail _ (.tail _ (.tail _ (.head _)))), (List.forall_mem_cons.mpr ⟨(.head _), (fun _ z => absurd z List.not_mem_nil)⟩)⟩)⟩)⟩) h
  · replace h := h.2 c
    refine v_aload_n (pc := 472) d_Md_readTold_472 rfl (.tail _ (.head _)) ?_
    refine v_iconst (pc := 473) d_Md_readTold_473 (by decide) ?_
    refine v_aload_n (pc := 474) d_Md_readTold_474 rfl (.tail _ (.head _)) ?_
    refine v_aload_n (pc := 475) d_Md_readTold_475 rfl (.tail _ (.head _)) ?_
    refine v_geti (pc := 476) (x := (w 0 11)) d_Md_readTold_476 fl_Md_363 cM_0.1 cM_0.2 (Or.inl rfl) rfl ?_
    refine v_callV (pc := 479) (J' := jMd_placeOf) (d' := d) (o := 0) (ci := 13) (N := 93) (T := cT13) (As := [vI (w 0 11)]) d_Md_readTold_479 ml_Md_366 cM_0.1 cM_0.2 (by decide) rfl rfl (Nat.le_of_ble_eq_true rfl) (Nat.le_refl _) rfl (Cal.weak h (fun o w1 h => ?_))
    rcases rIt_of h with ⟨x2, rfl, h⟩ | ⟨b, rfl, h⟩
    rotate_left
    · exact h
    refine v_callV (pc := 482) (J' := jMd_fail) (d' := d) (o := 0) (ci := 13) (N := 93) (T := cT13) (As := [vI 1, vI x2]) d_Md_readTold_482 ml_Md_370 cM_0.1 cM_0.2 (by decide) rfl rfl (Nat.le_of_ble_eq_true rfl) (Nat.le_refl _) rfl (Cal.weak h (fun o w3 h => ?_))
    rcases rVt_of h with ⟨rfl, h⟩ | ⟨b, rfl, h⟩
    rotate_left
    · exact h
    exact v_sub (List.forall_mem_cons.mpr ⟨(.tail _ (.head _)), (List.forall_mem_cons.mpr ⟨(.tail _ (.tail _ (.head _))), (List.forall_mem_cons.mpr ⟨(.tail _ (.tail _ (.tail _ (.head _)))), (List.forall_mem_cons.mpr ⟨(.head _), (fun _ z => absurd z List.not_mem_nil)⟩)⟩)⟩)⟩) h
set_option maxHeartbeats 4000000 in
theorem s_Md_readTold_165 {g : Mg} {d : Nat} {K : Ou → Wd → Prop} {w : Wd} {x1_ : Int} {x3_ : Int} (h : Cal g LM jMd_is d [vA 0, vA 1010] w (fun o w1 => rIt o (fun b => K (.inr b) w1) (fun x2 => (x2 = 0 → (V g LM jMd_readTold (d + 1) K 184 [(0, vA 0), (1, vI x1_), (3, vI x3_)] [vI 1, vI x3_, vA 12] w1)) ∧ (¬ x2 = 0 → (V g LM jMd_readTold (d + 1) K 184 [(0, vA 0), (1, vI x1_), (3, vI x3_)] [vI 0, vI x3_, vA 12] w1))))) : V g LM jMd_readTold (d + 1) K 165 [(0, vA 0), (1, vI x1_), (3, vI x3_)] [] w := by
  refine v_aload_n (pc := 165) d_Md_readTold_165 rfl (.head _) ?_
  refine v_getr (C := "") (pc := 166) (r := 12) d_Md_readTold_166 fl_Md_173 cM_0.1 cM_0.2 (Or.inr ⟨_, rfl⟩) rM_0_16 ?_
  refine v_iload_n (pc := 169) d_Md_readTold_169 rfl (.tail _ (.tail _ (.head _))) ?_
  refine v_aload_n (pc := 170) d_Md_readTold_170 rfl (.head _) ?_
  refine v_ldcs (pc := 171) (n := 9) (tx := "int") d_Md_readTold_171 (by decide +kernel) ?_
  refine v_callV (pc := 173) (J' := jMd_is) (d' := d) (o := 0) (ci := 13) (N := 93) (T := cT13) (As := [vA 1010]) d_Md_readTold_173 ml_Md_374 cM_0.1 cM_0.2 (by decide) rfl rfl (Nat.le_of_ble_eq_true rfl) (Nat.le_refl _) rfl (Cal.weak h (fun o w1 h => ?_))
  rcases rIt_of h with ⟨x2, rfl, h⟩ | ⟨b, rfl, h⟩
  rotate_left
  · exact h
  refine v_ifeq (pc := 176) (tgt := 183) d_Md_readTold_176 (by decide) (fun c => ?_) (fun c => ?_)
  · replace h := h.1 c
    refine v_iconst (pc := 183) d_Md_readTold_183 (by decide) ?_
    exact v_sub (List.forall_mem_cons.mpr ⟨(.head _), (List.forall_mem_cons.mpr ⟨(.tail _ (.head _)), (List.forall_mem_cons.mpr ⟨(.tail _ (.tail _ (.head _))), (fun _ z => absurd z List.not_mem_nil)⟩)⟩)⟩) h
  · replace h := h.2 c
    refine v_iconst (pc := 179) d_Md_readTold_179 (by decide) ?_
    refine v_goto (pc := 180) (tgt := 184) d_Md_readTold_180 (by decide) ?_
    exact v_sub (List.forall_mem_cons.mpr ⟨(.head _), (List.forall_mem_cons.mpr ⟨(.tail _ (.head _)), (List.forall_mem_cons.mpr ⟨(.tail _ (.tail _ (.head _))), (fun _ z => absurd z List.not_mem_nil)⟩)⟩)⟩) h
set_option maxHeartbeats 4000000 in
theorem s_Md_readTold_485 {g : Mg} {d : Nat} {K : Ou → Wd → Prop} {w : Wd} {x1_ : Int} {x3_ : Int} {x4_ : Int} (h : (0 ≤ x3_ ∧ x3_ < 30) ∧ (Cal g LM jMd_pass d [vA 0] (up w 13 (x3_.toNat) x4_) (fun o w1 => rIt o (fun b => K (.inr b) w1) (fun x2 => (0 ≤ x3_ ∧ x3_ < 30) ∧ ((x4_ = 4 → (V g LM jMd_readTold (d + 1) K 520 [(0, vA 0), (1, vI x1_)] [vI x3_, vA 12] (up w1 14 (x3_.toNat) x2))) ∧ (¬ x4_ = 4 → ((¬ x4_ = 5 → (V g LM jMd_readTold (d + 1) K 525 [(0, vA 0), (1, vI x1_)] [vI 0, vI x3_, vA 12] (up w1 14 (x3_.toNat) x2))) ∧ (x4_ = 5 → (V g LM jMd_readTold (d + 1) K 520 [(0, vA 0), (1, vI x1_)] [vI x3_, vA 12] (up w1 14 (x3_.toNat) x2)))))))))) : V g LM jMd_readTold (d + 1) K 485 [(0, vA 0), (1, vI x1_), (3, vI x3_), (4, vI x4_)] [] w := by
  refine v_aload_n (pc := 485) d_Md_readTold_485 rfl (.head _) ?_
  refine v_getr (C := "") (pc := 486) (r := 13) d_Md_readTold_486 fl_Md_176 cM_0.1 cM_0.2 (Or.inr ⟨_, rfl⟩) rM_0_17 ?_
  refine v_iload_n (pc := 489) d_Md_readTold_489 rfl (.tail _ (.tail _ (.head _))) ?_
  refine v_iload (pc := 490) d_Md_readTold_490 (.tail _ (.tail _ (.tail _ (.head _)))) ?_
  refine v_iast (pc := 492) d_Md_readTold_492 cM_13.1 cM_13.2 (aM_13 _) h.1 ?_
  replace h := h.2
  refine v_aload_n (pc := 493) d_Md_readTold_493 rfl (.head _) ?_
  refine v_getr (C := "") (pc := 494) (r := 14) d_Md_readTold_494 fl_Md_179 cM_0.1 cM_0.2 (Or.inr ⟨_, rfl⟩) rM_0_18 ?_
  refine v_iload_n (pc := 497) d_Md_readTold_497 rfl (.tail _ (.tail _ (.head _))) ?_
  refine v_aload_n (pc := 498) d_Md_readTold_498 rfl (.head _) ?_
  refine v_callV (pc := 499) (J' := jMd_pass) (d' := d) (o := 0) (ci := 13) (N := 93) (T := cT13) (As := []) d_Md_readTold_499 ml_Md_378 cM_0.1 cM_0.2 (by decide) rfl rfl (Nat.le_of_ble_eq_true rfl) (Nat.le_refl _) rfl (Cal.weak h (fun o w1 h => ?_))
  rcases rIt_of h with ⟨x2, rfl, h⟩ | ⟨b, rfl, h⟩
  rotate_left
  · exact h
  refine v_iast (pc := 502) d_Md_readTold_502 cM_14.1 cM_14.2 (aM_14 _) h.1 ?_
  replace h := h.2
  refine v_aload_n (pc := 503) d_Md_readTold_503 rfl (.head _) ?_
  refine v_getr (C := "") (pc := 504) (r := 12) d_Md_readTold_504 fl_Md_173 cM_0.1 cM_0.2 (Or.inr ⟨_, rfl⟩) rM_0_16 ?_
  refine v_iload_n (pc := 507) d_Md_readTold_507 rfl (.tail _ (.tail _ (.head _))) ?_
  refine v_iload (pc := 508) d_Md_readTold_508 (.tail _ (.tail _ (.tail _ (.head _)))) ?_
  refine v_iconst (pc := 510) d_Md_readTold_510 (by decide) ?_
  refine v_icmpeq (pc := 511) (tgt := 520) d_Md_readTold_511 (by decide) (fun c => ?_) (fun c => ?_)
  · replace h := h.1 c
    exact v_sub (List.forall_mem_cons.mpr ⟨(.head _), (List.forall_mem_cons.mpr ⟨(.tail _ (.head _)), (fun _ z => absurd z List.not_mem_nil)⟩)⟩) h
  · replace h := h.2 c
    refine v_iload (pc := 514) d_Md_readTold_514 (.tail _ (.tail _ (.tail _ (.head _)))) ?_
    refine v_iconst (pc := 516) d_Md_readTold_516 (by decide) ?_
    refine v_icmpne (pc := 517) (tgt := 524) d_Md_readTold_517 (by decide) (fun c => ?_) (fun c => ?_)
    · replace h := h.1 c
      refine v_iconst (pc := 524) d_Md_readTold_524 (by decide) ?_
      exact v_sub (List.forall_mem_cons.mpr ⟨(.head _), (List.forall_mem_cons.mpr ⟨(.tail _ (.head _)), (fun _ z => absurd z List.not_mem_nil)⟩)⟩) h
    · replace h := h.2 c
      exact v_sub (List.forall_mem_cons.mpr ⟨(.head _), (List.forall_mem_cons.mpr ⟨(.tail _ (.head _)), (fun _ z => absurd z List.not_mem_nil)⟩)⟩) h
set_option maxHeartbeats 4000000 in
theorem s_Md_readTold_184 {g : Mg} {d : Nat} {K : Ou → Wd → Prop} {w : Wd} {x1_ : Int} {x3_ : Int} {s1_ : Int} {s2_ : Int} (h : (0 ≤ s1_ ∧ s1_ < 30) ∧ (Cal g LM jMd_pass d [vA 0] (up w 12 (s1_.toNat) s2_) (fun o w1 => rIt o (fun b => K (.inr b) w1) (fun x2 => Cal g LM jMd_must d [vA 0, vA 1051] w1 (fun o w3 => rIt o (fun b => K (.inr b) w3) (fun x4 => Cal g LM jMd_is d [vA 0, vA 1055] w3 (fun o w5 => rIt o (fun b => K (.inr b) w5) (fun x6 => (x6 = 0 → (V g LM jMd_readTold (d + 1) K 219 [(0, vA 0), (1, vI x1_), (3, vI x3_)] [] w5)) ∧ (¬ x6 = 0 → ((0 ≤ x3_ ∧ x3_ < 30) ∧ ((¬ (w5 12 x3_.toNat) = 0 → (V g LM jMd_readTold (d + 1) K 219 [(0, vA 0), (1, vI x1_), (3, vI x3_)] [] w5)) ∧ ((w5 12 x3_.toNat) = 0 → (V g LM jMd_readTold (d + 1) K 220 [(0, vA 0), (1, vI x1_), (3, vI x3_)] [vI 1] w5))))))))))))) : V g LM jMd_readTold (d + 1) K 184 [(0, vA 0), (1, vI x1_), (3, vI x3_)] [vI s2_, vI s1_, vA 12] w := by
  refine v_iast (pc := 184) d_Md_readTold_184 cM_12.1 cM_12.2 (aM_12 _) h.1 ?_
  replace h := h.2
  refine v_aload_n (pc := 185) d_Md_readTold_185 rfl (.head _) ?_
  refine v_callV (pc := 186) (J' := jMd_pass) (d' := d) (o := 0) (ci := 13) (N := 93) (T := cT13) (As := []) d_Md_readTold_186 ml_Md_378 cM_0.1 cM_0.2 (by decide) rfl rfl (Nat.le_of_ble_eq_true rfl) (Nat.le_refl _) rfl (Cal.weak h (fun o w1 h => ?_))
  rcases rIt_of h with ⟨x2, rfl, h⟩ | ⟨b, rfl, h⟩
  rotate_left
  · exact h
  refine v_istore_n (pc := 189) (ls' := [(2, vI x2), (0, vA 0), (1, vI x1_), (3, vI x3_)]) d_Md_readTold_189 rfl (by decide) rfl ?_
  refine v_aload_n (pc := 190) d_Md_readTold_190 rfl (.tail _ (.head _)) ?_
  refine v_ldcs (pc := 191) (n := 50) (tx := "=") d_Md_readTold_191 (by decide +kernel) ?_
  refine v_callV (pc := 193) (J' := jMd_must) (d' := d) (o := 0) (ci := 13) (N := 93) (T := cT13) (As := [vA 1051]) d_Md_readTold_193 ml_Md_420 cM_0.1 cM_0.2 (by decide) rfl rfl (Nat.le_of_ble_eq_true rfl) (Nat.le_refl _) rfl (Cal.weak h (fun o w3 h => ?_))
  rcases rIt_of h with ⟨x4, rfl, h⟩ | ⟨b, rfl, h⟩
  rotate_left
  · exact h
  refine v_istore_n (pc := 196) (ls' := [(2, vI x4), (0, vA 0), (1, vI x1_), (3, vI x3_)]) d_Md_readTold_196 rfl (by decide) rfl ?_
  refine v_aload_n (pc := 197) d_Md_readTold_197 rfl (.tail _ (.head _)) ?_
  refine v_ldcs (pc := 198) (n := 54) (tx := "-") d_Md_readTold_198 (by decide +kernel) ?_
  refine v_callV (pc := 200) (J' := jMd_is) (d' := d) (o := 0) (ci := 13) (N := 93) (T := cT13) (As := [vA 1055]) d_Md_readTold_200 ml_Md_374 cM_0.1 cM_0.2 (by decide) rfl rfl (Nat.le_of_ble_eq_true rfl) (Nat.le_refl _) rfl (Cal.weak h (fun o w5 h => ?_))
  rcases rIt_of h with ⟨x6, rfl, h⟩ | ⟨b, rfl, h⟩
  rotate_left
  · exact h
  refine v_ifeq (pc := 203) (tgt := 219) d_Md_readTold_203 (by decide) (fun c => ?_) (fun c => ?_)
  · replace h := h.1 c
    exact v_sub (List.forall_mem_cons.mpr ⟨(.tail _ (.head _)), (List.forall_mem_cons.mpr ⟨(.tail _ (.tail _ (.head _))), (List.forall_mem_cons.mpr ⟨(.tail _ (.tail _ (.tail _ (.head _)))), (fun _ z => absurd z List.not_mem_nil)⟩)⟩)⟩) h
  · replace h := h.2 c
    refine v_aload_n (pc := 206) d_Md_readTold_206 rfl (.tail _ (.head _)) ?_
    refine v_getr (C := "") (pc := 207) (r := 12) d_Md_readTold_207 fl_Md_173 cM_0.1 cM_0.2 (Or.inr ⟨_, rfl⟩) rM_0_16 ?_
    refine v_iload_n (pc := 210) d_Md_readTold_210 rfl (.tail _ (.tail _ (.tail _ (.head _)))) ?_
    refine v_iald (pc := 211) (x := (w5 12 x3_.toNat)) d_Md_readTold_211 cM_12.1 cM_12.2 rfl h.1 ?_
    replace h := h.2
    refine v_ifne (pc := 212) (tgt := 219) d_Md_readTold_212 (by decide) (fun c => ?_) (fun c => ?_)
    · replace h := h.1 c
      exact v_sub (List.forall_mem_cons.mpr ⟨(.tail _ (.head _)), (List.forall_mem_cons.mpr ⟨(.tail _ (.tail _ (.head _))), (List.forall_mem_cons.mpr ⟨(.tail _ (.tail _ (.tail _ (.head _)))), (fun _ z => absurd z List.not_mem_nil)⟩)⟩)⟩) h
    · replace h := h.2 c
      refine v_iconst (pc := 215) d_Md_readTold_215 (by decide) ?_
      refine v_goto (pc := 216) (tgt := 220) d_Md_readTold_216 (by decide) ?_
      exact v_sub (List.forall_mem_cons.mpr ⟨(.tail _ (.head _)), (List.forall_mem_cons.mpr ⟨(.tail _ (.tail _ (.head _))), (List.forall_mem_cons.mpr ⟨(.tail _ (.tail _ (.tail _ (.head _)))), (fun _ z => absurd z List.not_mem_nil)⟩)⟩)⟩) h
set_option maxHeartbeats 4000000 in
theorem s_Md_readTold_520 {g : Mg} {d : Nat} {K : Ou → Wd → Prop} {w : Wd} {x1_ : Int} {s1_ : Int} (h : V g LM jMd_readTold (d + 1) K 525 [(0, vA 0), (1, vI x1_)] [vI 1, vI s1_, vA 12] w) : V g LM jMd_readTold (d + 1) K 520 [(0, vA 0), (1, vI x1_)] [vI s1_, vA 12] w := by
  refine v_iconst (pc := 520) d_Md_readTold_520 (by decide) ?_
  refine v_goto (pc := 521) (tgt := 525) d_Md_readTold_521 (by decide) ?_
  exact v_sub (List.forall_mem_cons.mpr ⟨(.head _), (List.forall_mem_cons.mpr ⟨(.tail _ (.head _)), (fun _ z => absurd z List.not_mem_nil)⟩)⟩) h
set_option maxHeartbeats 4000000 in
theorem s_Md_readTold_525 {g : Mg} {d : Nat} {K : Ou → Wd → Prop} {w : Wd} {x1_ : Int} {s1_ : Int} {s2_ : Int} (h : (0 ≤ s1_ ∧ s1_ < 30) ∧ (V g LM jMd_readTold (d + 1) K 526 [(0, vA 0), (1, vI x1_)] [] (up w 12 (s1_.toNat) s2_))) : V g LM jMd_readTold (d + 1) K 525 [(0, vA 0), (1, vI x1_)] [vI s2_, vI s1_, vA 12] w := by
  refine v_iast (pc := 525) d_Md_readTold_525 cM_12.1 cM_12.2 (aM_12 _) h.1 ?_
  replace h := h.2
  exact v_sub (List.forall_mem_cons.mpr ⟨(.head _), (List.forall_mem_cons.mpr ⟨(.tail _ (.head _)), (fun _ z => absurd z List.not_mem_nil)⟩)⟩) h
set_option maxHeartbeats 4000000 in
theorem s_Md_readTold_219 {g : Mg} {d : Nat} {K : Ou → Wd → Prop} {w : Wd} {x1_ : Int} {x3_ : Int} (h : V g LM jMd_readTold (d + 1) K 220 [(0, vA 0), (1, vI x1_), (3, vI x3_)] [vI 0] w) : V g LM jMd_readTold (d + 1) K 219 [(0, vA 0), (1, vI x1_), (3, vI x3_)] [] w := by
  refine v_iconst (pc := 219) d_Md_readTold_219 (by decide) ?_
  exact v_sub (List.forall_mem_cons.mpr ⟨(.head _), (List.forall_mem_cons.mpr ⟨(.tail _ (.head _)), (List.forall_mem_cons.mpr ⟨(.tail _ (.tail _ (.head _))), (fun _ z => absurd z List.not_mem_nil)⟩)⟩)⟩) h
set_option maxHeartbeats 4000000 in
theorem s_Md_readTold_220 {g : Mg} {d : Nat} {K : Ou → Wd → Prop} {w : Wd} {x1_ : Int} {x3_ : Int} {s0_ : Int} (h : (s0_ = 0 → (V g LM jMd_readTold (d + 1) K 237 [(0, vA 0), (1, vI x1_), (3, vI x3_), (4, vI s0_)] [] w)) ∧ (¬ s0_ = 0 → (Cal g LM jMd_pass d [vA 0] w (fun o w1 => rIt o (fun b => K (.inr b) w1) (fun x2 => (0 ≤ x3_ ∧ x3_ < 30) ∧ (V g LM jMd_readTold (d + 1) K 237 [(0, vA 0), (1, vI x1_), (3, vI x3_), (4, vI s0_)] [] (up w1 15 (x3_.toNat) x2))))))) : V g LM jMd_readTold (d + 1) K 220 [(0, vA 0), (1, vI x1_), (3, vI x3_)] [vI s0_] w := by
  refine v_istore (pc := 220) (ls' := [(4, vI s0_), (0, vA 0), (1, vI x1_), (3, vI x3_)]) d_Md_readTold_220 (by decide) rfl ?_
  refine v_iload (pc := 222) d_Md_readTold_222 (.head _) ?_
  refine v_ifeq (pc := 224) (tgt := 237) d_Md_readTold_224 (by decide) (fun c => ?_) (fun c => ?_)
  · replace h := h.1 c
    exact v_sub (List.forall_mem_cons.mpr ⟨(.tail _ (.head _)), (List.forall_mem_cons.mpr ⟨(.tail _ (.tail _ (.head _))), (List.forall_mem_cons.mpr ⟨(.tail _ (.tail _ (.tail _ (.head _)))), (List.forall_mem_cons.mpr ⟨(.head _), (fun _ z => absurd z List.not_mem_nil)⟩)⟩)⟩)⟩) h
  · replace h := h.2 c
    refine v_aload_n (pc := 227) d_Md_readTold_227 rfl (.tail _ (.head _)) ?_
    refine v_getr (C := "") (pc := 228) (r := 15) d_Md_readTold_228 fl_Md_182 cM_0.1 cM_0.2 (Or.inr ⟨_, rfl⟩) rM_0_19 ?_
    refine v_iload_n (pc := 231) d_Md_readTold_231 rfl (.tail _ (.tail _ (.tail _ (.head _)))) ?_
    refine v_aload_n (pc := 232) d_Md_readTold_232 rfl (.tail _ (.head _)) ?_
    refine v_callV (pc := 233) (J' := jMd_pass) (d' := d) (o := 0) (ci := 13) (N := 93) (T := cT13) (As := []) d_Md_readTold_233 ml_Md_378 cM_0.1 cM_0.2 (by decide) rfl rfl (Nat.le_of_ble_eq_true rfl) (Nat.le_refl _) rfl (Cal.weak h (fun o w1 h => ?_))
    rcases rIt_of h with ⟨x2, rfl, h⟩ | ⟨b, rfl, h⟩
    rotate_left
    · exact h
    refine v_iast (pc := 236) d_Md_readTold_236 cM_15.1 cM_15.2 (aM_15 _) h.1 ?_
    replace h := h.2
    exact v_sub (List.forall_mem_cons.mpr ⟨(.tail _ (.head _)), (List.forall_mem_cons.mpr ⟨(.tail _ (.tail _ (.head _))), (List.forall_mem_cons.mpr ⟨(.tail _ (.tail _ (.tail _ (.head _)))), (List.forall_mem_cons.mpr ⟨(.head _), (fun _ z => absurd z List.not_mem_nil)⟩)⟩)⟩)⟩) h
set_option maxHeartbeats 4000000 in
theorem s_Md_readTold_237 {g : Mg} {d : Nat} {K : Ou → Wd → Prop} {w : Wd} {x1_ : Int} {x3_ : Int} {x4_ : Int} (h : (0 ≤ x3_ ∧ x3_ < 30) ∧ ((¬ (w 12 x3_.toNat) = 0 → (Cal g LM jMd_is d [vA 0, vA 1012] w (fun o w1 => rIt o (fun b => K (.inr b) w1) (fun x2 => (¬ x2 = 0 → (V g LM jMd_readTold (d + 1) K 293 [(0, vA 0), (1, vI x1_), (3, vI x3_), (4, vI x4_)] [] w1)) ∧ (x2 = 0 → (Cal g LM jMd_is d [vA 0, vA 1013] w1 (fun o w3 => rIt o (fun b => K (.inr b) w3) (fun x4 => (¬ x4 = 0 → (V g LM jMd_readTold (d + 1) K 293 [(0, vA 0), (1, vI x1_), (3, vI x3_), (4, vI x4_)] [] w3)) ∧ (x4 = 0 → (V g LM jMd_readTold (d + 1) K 280 [(0, vA 0), (1, vI x1_), (3, vI x3_), (4, vI x4_)] [] w3)))))))))) ∧ ((w 12 x3_.toNat) = 0 → ((0 ≤ (w 0 11) ∧ (w 0 11) < 4022) ∧ (((w 4 ((w 0 11).toNat)) = 1 → (V g LM jMd_readTold (d + 1) K 293 [(0, vA 0), (1, vI x1_), (3, vI x3_), (4, vI x4_)] [] w)) ∧ (¬ (w 4 ((w 0 11).toNat)) = 1 → (V g LM jMd_readTold (d + 1) K 280 [(0, vA 0), (1, vI x1_), (3, vI x3_), (4, vI x4_)] [] w))))))) : V g LM jMd_readTold (d + 1) K 237 [(0, vA 0), (1, vI x1_), (3, vI x3_), (4, vI x4_)] [] w := by
  refine v_aload_n (pc := 237) d_Md_readTold_237 rfl (.head _) ?_
  refine v_getr (C := "") (pc := 238) (r := 12) d_Md_readTold_238 fl_Md_173 cM_0.1 cM_0.2 (Or.inr ⟨_, rfl⟩) rM_0_16 ?_
  refine v_iload_n (pc := 241) d_Md_readTold_241 rfl (.tail _ (.tail _ (.head _))) ?_
  refine v_iald (pc := 242) (x := (w 12 x3_.toNat)) d_Md_readTold_242 cM_12.1 cM_12.2 rfl h.1 ?_
  replace h := h.2
  refine v_ifne (pc := 243) (tgt := 262) d_Md_readTold_243 (by decide) (fun c => ?_) (fun c => ?_)
  · replace h := h.1 c
    refine v_aload_n (pc := 262) d_Md_readTold_262 rfl (.head _) ?_
    refine v_ldcs (pc := 263) (n := 11) (tx := "true") d_Md_readTold_263 (by decide +kernel) ?_
    refine v_callV (pc := 265) (J' := jMd_is) (d' := d) (o := 0) (ci := 13) (N := 93) (T := cT13) (As := [vA 1012]) d_Md_readTold_265 ml_Md_374 cM_0.1 cM_0.2 (by decide) rfl rfl (Nat.le_of_ble_eq_true rfl) (Nat.le_refl _) rfl (Cal.weak h (fun o w1 h => ?_))
    rcases rIt_of h with ⟨x2, rfl, h⟩ | ⟨b, rfl, h⟩
    rotate_left
    · exact h
    refine v_ifne (pc := 268) (tgt := 293) d_Md_readTold_268 (by decide) (fun c => ?_) (fun c => ?_)
    · replace h := h.1 c
      exact v_sub (List.forall_mem_cons.mpr ⟨(.head _), (List.forall_mem_cons.mpr ⟨(.tail _ (.head _)), (List.forall_mem_cons.mpr ⟨(.tail _ (.tail _ (.head _))), (List.forall_mem_cons.mpr ⟨(.tail _ (.tail _ (.tail _ (.head _)))), (fun _ z => absurd z List.not_mem_nil)⟩)⟩)⟩)⟩) h
    · replace h := h.2 c
      refine v_aload_n (pc := 271) d_Md_readTold_271 rfl (.head _) ?_
      refine v_ldcs (pc := 272) (n := 12) (tx := "false") d_Md_readTold_272 (by decide +kernel) ?_
      refine v_callV (pc := 274) (J' := jMd_is) (d' := d) (o := 0) (ci := 13) (N := 93) (T := cT13) (As := [vA 1013]) d_Md_readTold_274 ml_Md_374 cM_0.1 cM_0.2 (by decide) rfl rfl (Nat.le_of_ble_eq_true rfl) (Nat.le_refl _) rfl (Cal.weak h (fun o w3 h => ?_))
      rcases rIt_of h with ⟨x4, rfl, h⟩ | ⟨b, rfl, h⟩
      rotate_left
      · exact h
      refine v_ifne (pc := 277) (tgt := 293) d_Md_readTold_277 (by decide) (fun c => ?_) (fun c => ?_)
      · replace h := h.1 c
        exact v_sub (List.forall_mem_cons.mpr ⟨(.head _), (List.forall_mem_cons.mpr ⟨(.tail _ (.head _)), (List.forall_mem_cons.mpr ⟨(.tail _ (.tail _ (.head _))), (List.forall_mem_cons.mpr ⟨(.tail _ (.tail _ (.tail _ (.head _)))), (fun _ z => absurd z List.not_mem_nil)⟩)⟩)⟩)⟩) h
      · replace h := h.2 c
        exact v_sub (List.forall_mem_cons.mpr ⟨(.head _), (List.forall_mem_cons.mpr ⟨(.tail _ (.head _)), (List.forall_mem_cons.mpr ⟨(.tail _ (.tail _ (.head _))), (List.forall_mem_cons.mpr ⟨(.tail _ (.tail _ (.tail _ (.head _)))), (fun _ z => absurd z List.not_mem_nil)⟩)⟩)⟩)⟩) h
  · replace h := h.2 c
    refine v_aload_n (pc := 246) d_Md_readTold_246 rfl (.head _) ?_
    refine v_getr (C := "") (pc := 247) (r := 4) d_Md_readTold_247 fl_Md_33 cM_0.1 cM_0.2 (Or.inr ⟨_, rfl⟩) rM_0_6 ?_
    refine v_aload_n (pc := 250) d_Md_readTold_250 rfl (.head _) ?_
    refine v_geti (pc := 251) (x := (w 0 11)) d_Md_readTold_251 fl_Md_363 cM_0.1 cM_0.2 (Or.inl rfl) rfl ?_
    refine v_iald (pc := 254) (x := (w 4 ((w 0 11).toNat))) d_Md_readTold_254 cM_4.1 cM_4.2 rfl h.1 ?_
    replace h := h.2
    refine v_iconst (pc := 255) d_Md_readTold_255 (by decide) ?_
    refine v_icmpeq (pc := 256) (tgt := 293) d_Md_readTold_256 (by decide) (fun c => ?_) (fun c => ?_)
    · replace h := h.1 c
      exact v_sub (List.forall_mem_cons.mpr ⟨(.head _), (List.forall_mem_cons.mpr ⟨(.tail _ (.head _)), (List.forall_mem_cons.mpr ⟨(.tail _ (.tail _ (.head _))), (List.forall_mem_cons.mpr ⟨(.tail _ (.tail _ (.tail _ (.head _)))), (fun _ z => absurd z List.not_mem_nil)⟩)⟩)⟩)⟩) h
    · replace h := h.2 c
      refine v_goto (pc := 259) (tgt := 280) d_Md_readTold_259 (by decide) ?_
      exact v_sub (List.forall_mem_cons.mpr ⟨(.head _), (List.forall_mem_cons.mpr ⟨(.tail _ (.head _)), (List.forall_mem_cons.mpr ⟨(.tail _ (.tail _ (.head _))), (List.forall_mem_cons.mpr ⟨(.tail _ (.tail _ (.tail _ (.head _)))), (fun _ z => absurd z List.not_mem_nil)⟩)⟩)⟩)⟩) h
set_option maxHeartbeats 4000000 in
theorem s_Md_readTold_293 {g : Mg} {d : Nat} {K : Ou → Wd → Prop} {w : Wd} {x1_ : Int} {x3_ : Int} {x4_ : Int} (h : (0 ≤ x3_ ∧ x3_ < 30) ∧ ((0 ≤ (w 0 11) ∧ (w 0 11) < 4022) ∧ ((¬ (w 4 ((w 0 11).toNat)) = 1 → (Cal g LM jMd_is d [vA 0, vA 1012] (up w 14 (x3_.toNat) (w 0 11)) (fun o w1 => rIt o (fun b => K (.inr b) w1) (fun x2 => (x2 = 0 → (V g LM jMd_readTold (d + 1) K 365 [(0, vA 0), (1, vI x1_)] [vI 0, vI x3_, vA 13] w1)) ∧ (¬ x2 = 0 → (V g LM jMd_readTold (d + 1) K 365 [(0, vA 0), (1, vI x1_)] [vI 1, vI x3_, vA 13] w1)))))) ∧ ((w 4 ((w 0 11).toNat)) = 1 → ((x4_ = 0 → ((0 ≤ (w 0 11) ∧ (w 0 11) < 4022) ∧ (V g LM jMd_readTold (d + 1) K 365 [(0, vA 0), (1, vI x1_)] [vI (w 7 ((w 0 11).toNat)), vI x3_, vA 13] (up w 14 (x3_.toNat) (w 0 11))))) ∧ (¬ x4_ = 0 → ((0 ≤ (w 0 11) ∧ (w 0 11) < 4022) ∧ (V g LM jMd_readTold (d + 1) K 365 [(0, vA 0), (1, vI x1_)] [vI (wr (-(w 7 ((w 0 11).toNat)))), vI x3_, vA 13] (up w 14 (x3_.toNat) (w 0 11)))))))))) : V g LM jMd_readTold (d + 1) K 293 [(0, vA 0), (1, vI x1_), (3, vI x3_), (4, vI x4_)] [] w := by
  refine v_aload_n (pc := 293) d_Md_readTold_293 rfl (.head _) ?_
  refine v_getr (C := "") (pc := 294) (r := 14) d_Md_readTold_294 fl_Md_179 cM_0.1 cM_0.2 (Or.inr ⟨_, rfl⟩) rM_0_18 ?_
  refine v_iload_n (pc := 297) d_Md_readTold_297 rfl (.tail _ (.tail _ (.head _))) ?_
  refine v_aload_n (pc := 298) d_Md_readTold_298 rfl (.head _) ?_
  refine v_geti (pc := 299) (x := (w 0 11)) d_Md_readTold_299 fl_Md_363 cM_0.1 cM_0.2 (Or.inl rfl) rfl ?_
  refine v_iast (pc := 302) d_Md_readTold_302 cM_14.1 cM_14.2 (aM_14 _) h.1 ?_
  replace h := h.2
  refine v_aload_n (pc := 303) d_Md_readTold_303 rfl (.head _) ?_
  refine v_getr (C := "") (pc := 304) (r := 13) d_Md_readTold_304 fl_Md_176 cM_0.1 cM_0.2 (Or.inr ⟨_, rfl⟩) rM_0_17 ?_
  refine v_iload_n (pc := 307) d_Md_readTold_307 rfl (.tail _ (.tail _ (.head _))) ?_
  refine v_aload_n (pc := 308) d_Md_readTold_308 rfl (.head _) ?_
  refine v_getr (C := "") (pc := 309) (r := 4) d_Md_readTold_309 fl_Md_33 cM_0.1 cM_0.2 (Or.inr ⟨_, rfl⟩) rM_0_6 ?_
  refine v_aload_n (pc := 312) d_Md_readTold_312 rfl (.head _) ?_
  refine v_geti (pc := 313) (x := (w 0 11)) d_Md_readTold_313 fl_Md_363 cM_0.1 cM_0.2 (Or.inl rfl) rfl ?_
  refine v_iald (pc := 316) (x := (w 4 ((w 0 11).toNat))) d_Md_readTold_316 cM_4.1 cM_4.2 rfl h.1 ?_
  replace h := h.2
  refine v_iconst (pc := 317) d_Md_readTold_317 (by decide) ?_
  refine v_icmpne (pc := 318) (tgt := 351) d_Md_readTold_318 (by decide) (fun c => ?_) (fun c => ?_)
  · replace h := h.1 c
    refine v_aload_n (pc := 351) d_Md_readTold_351 rfl (.head _) ?_
    refine v_ldcs (pc := 352) (n := 11) (tx := "true") d_Md_readTold_352 (by decide +kernel) ?_
    refine v_callV (pc := 354) (J' := jMd_is) (d' := d) (o := 0) (ci := 13) (N := 93) (T := cT13) (As := [vA 1012]) d_Md_readTold_354 ml_Md_374 cM_0.1 cM_0.2 (by decide) rfl rfl (Nat.le_of_ble_eq_true rfl) (Nat.le_refl _) rfl (Cal.weak h (fun o w1 h => ?_))
    rcases rIt_of h with ⟨x2, rfl, h⟩ | ⟨b, rfl, h⟩
    rotate_left
    · exact h
    refine v_ifeq (pc := 357) (tgt := 364) d_Md_readTold_357 (by decide) (fun c => ?_) (fun c => ?_)
    · replace h := h.1 c
      refine v_iconst (pc := 364) d_Md_readTold_364 (by decide) ?_
      exact v_sub (List.forall_mem_cons.mpr ⟨(.head _), (List.forall_mem_cons.mpr ⟨(.tail _ (.head _)), (fun _ z => absurd z List.not_mem_nil)⟩)⟩) h
    · replace h := h.2 c
      refine v_iconst (pc := 360) d_Md_readTold_360 (by decide) ?_
      refine v_goto (pc := 361) (tgt := 365) d_Md_readTold_361 (by decide) ?_
      exact v_sub (List.forall_mem_cons.mpr ⟨(.head _), (List.forall_mem_cons.mpr ⟨(.tail _ (.head _)), (fun _ z => absurd z List.not_mem_nil)⟩)⟩) h
  · replace h := h.2 c
    refine v_iload (pc := 321) d_Md_readTold_321 (.tail _ (.tail _ (.tail _ (.head _)))) ?_
    refine v_ifeq (pc := 323) (tgt := 339) d_Md_readTold_323 (by decide) (fun c => ?_) (fun c => ?_)
    · replace h := h.1 c
      refine v_aload_n (pc := 339) d_Md_readTold_339 rfl (.head _) ?_
      refine v_getr (C := "") (pc := 340) (r := 7) d_Md_readTold_340 fl_Md_43 cM_0.1 cM_0.2 (Or.inr ⟨_, rfl⟩) rM_0_9 ?_
      refine v_aload_n (pc := 343) d_Md_readTold_343 rfl (.head _) ?_
      refine v_geti (pc := 344) (x := (w 0 11)) d_Md_readTold_344 fl_Md_363 cM_0.1 cM_0.2 (Or.inl rfl) rfl ?_
      refine v_iald (pc := 347) (x := (w 7 ((w 0 11).toNat))) d_Md_readTold_347 cM_7.1 cM_7.2 rfl h.1 ?_
      replace h := h.2
      refine v_goto (pc := 348) (tgt := 365) d_Md_readTold_348 (by decide) ?_
      exact v_sub (List.forall_mem_cons.mpr ⟨(.head _), (List.forall_mem_cons.mpr ⟨(.tail _ (.head _)), (fun _ z => absurd z List.not_mem_nil)⟩)⟩) h
    · replace h := h.2 c
      refine v_aload_n (pc := 326) d_Md_readTold_326 rfl (.head _) ?_
      refine v_getr (C := "") (pc := 327) (r := 7) d_Md_readTold_327 fl_Md_43 cM_0.1 cM_0.2 (Or.inr ⟨_, rfl⟩) rM_0_9 ?_
      refine v_aload_n (pc := 330) d_Md_readTold_330 rfl (.head _) ?_
      refine v_geti (pc := 331) (x := (w 0 11)) d_Md_readTold_331 fl_Md_363 cM_0.1 cM_0.2 (Or.inl rfl) rfl ?_
      refine v_iald (pc := 334) (x := (w 7 ((w 0 11).toNat))) d_Md_readTold_334 cM_7.1 cM_7.2 rfl h.1 ?_
      replace h := h.2
      refine v_ineg (pc := 335) d_Md_readTold_335 ?_
      refine v_goto (pc := 336) (tgt := 365) d_Md_readTold_336 (by decide) ?_
      exact v_sub (List.forall_mem_cons.mpr ⟨(.head _), (List.forall_mem_cons.mpr ⟨(.tail _ (.head _)), (fun _ z => absurd z List.not_mem_nil)⟩)⟩) h
set_option maxHeartbeats 4000000 in
theorem s_Md_readTold_280 {g : Mg} {d : Nat} {K : Ou → Wd → Prop} {w : Wd} {x1_ : Int} {x3_ : Int} {x4_ : Int} (h : Cal g LM jMd_placeOf d [vA 0, vI (w 0 11)] w (fun o w1 => rIt o (fun b => K (.inr b) w1) (fun x2 => Cal g LM jMd_fail d [vA 0, vI 1, vI x2] w1 (fun o w3 => rVt o (fun b => K (.inr b) w3) (V g LM jMd_readTold (d + 1) K 293 [(0, vA 0), (1, vI x1_), (3, vI x3_), (4, vI x4_)] [] w3))))) : V g LM jMd_readTold (d + 1) K 280 [(0, vA 0), (1, vI x1_), (3, vI x3_), (4, vI x4_)] [] w := by
  refine v_aload_n (pc := 280) d_Md_readTold_280 rfl (.head _) ?_
  refine v_iconst (pc := 281) d_Md_readTold_281 (by decide) ?_
  refine v_aload_n (pc := 282) d_Md_readTold_282 rfl (.head _) ?_
  refine v_aload_n (pc := 283) d_Md_readTold_283 rfl (.head _) ?_
  refine v_geti (pc := 284) (x := (w 0 11)) d_Md_readTold_284 fl_Md_363 cM_0.1 cM_0.2 (Or.inl rfl) rfl ?_
  refine v_callV (pc := 287) (J' := jMd_placeOf) (d' := d) (o := 0) (ci := 13) (N := 93) (T := cT13) (As := [vI (w 0 11)]) d_Md_readTold_287 ml_Md_366 cM_0.1 cM_0.2 (by decide) rfl rfl (Nat.le_of_ble_eq_true rfl) (Nat.le_refl _) rfl (Cal.weak h (fun o w1 h => ?_))
  rcases rIt_of h with ⟨x2, rfl, h⟩ | ⟨b, rfl, h⟩
  rotate_left
  · exact h
  refine v_callV (pc := 290) (J' := jMd_fail) (d' := d) (o := 0) (ci := 13) (N := 93) (T := cT13) (As := [vI 1, vI x2]) d_Md_readTold_290 ml_Md_370 cM_0.1 cM_0.2 (by decide) rfl rfl (Nat.le_of_ble_eq_true rfl) (Nat.le_refl _) rfl (Cal.weak h (fun o w3 h => ?_))
  rcases rVt_of h with ⟨rfl, h⟩ | ⟨b, rfl, h⟩
  rotate_left
  · exact h
  exact v_sub (List.forall_mem_cons.mpr ⟨(.head _), (List.forall_mem_cons.mpr ⟨(.tail _ (.head _)), (List.forall_mem_cons.mpr ⟨(.tail _ (.tail _ (.head _))), (List.forall_mem_cons.mpr ⟨(.tail _ (.tail _ (.tail _ (.head _)))), (fun _ z => absurd z List.not_mem_nil)⟩)⟩)⟩)⟩) h
set_option maxHeartbeats 4000000 in
theorem s_Md_readTold_365 {g : Mg} {d : Nat} {K : Ou → Wd → Prop} {w : Wd} {x1_ : Int} {s1_ : Int} {s2_ : Int} (h : (0 ≤ s1_ ∧ s1_ < 30) ∧ (Cal g LM jMd_pass d [vA 0] (up w 13 (s1_.toNat) s2_) (fun o w1 => rIt o (fun b => K (.inr b) w1) (fun x2 => V g LM jMd_readTold (d + 1) K 526 [(0, vA 0), (1, vI x1_)] [] w1)))) : V g LM jMd_readTold (d + 1) K 365 [(0, vA 0), (1, vI x1_)] [vI s2_, vI s1_, vA 13] w := by
  refine v_iast (pc := 365) d_Md_readTold_365 cM_13.1 cM_13.2 (aM_13 _) h.1 ?_
  replace h := h.2
  refine v_aload_n (pc := 366) d_Md_readTold_366 rfl (.head _) ?_
  refine v_callV (pc := 367) (J' := jMd_pass) (d' := d) (o := 0) (ci := 13) (N := 93) (T := cT13) (As := []) d_Md_readTold_367 ml_Md_378 cM_0.1 cM_0.2 (by decide) rfl rfl (Nat.le_of_ble_eq_true rfl) (Nat.le_refl _) rfl (Cal.weak h (fun o w1 h => ?_))
  rcases rIt_of h with ⟨x2, rfl, h⟩ | ⟨b, rfl, h⟩
  rotate_left
  · exact h
  refine v_istore_n (pc := 370) (ls' := [(2, vI x2), (0, vA 0), (1, vI x1_)]) d_Md_readTold_370 rfl (by decide) rfl ?_
  refine v_goto (pc := 371) (tgt := 526) d_Md_readTold_371 (by decide) ?_
  exact v_sub (List.forall_mem_cons.mpr ⟨(.tail _ (.head _)), (List.forall_mem_cons.mpr ⟨(.tail _ (.tail _ (.head _))), (fun _ z => absurd z List.not_mem_nil)⟩)⟩) h
theorem d_Md_readProgram_0 : decode jMd_readProgram.cc 0 = .ok (.aload_n 0, 1) := by decide +kernel
theorem d_Md_readProgram_1 : decode jMd_readProgram.cc 1 = .ok (.ldc 52, 2) := by decide +kernel
theorem d_Md_readProgram_3 : decode jMd_readProgram.cc 3 = .ok (.invokevirtual 374, 3) := by decide +kernel
theorem d_Md_readProgram_6 : decode jMd_readProgram.cc 6 = .ok (.ifCond .ne 30, 3) := by decide +kernel
theorem d_Md_readProgram_9 : decode jMd_readProgram.cc 9 = .ok (.aload_n 0, 1) := by decide +kernel
theorem d_Md_readProgram_10 : decode jMd_readProgram.cc 10 = .ok (.ldc 54, 2) := by decide +kernel
theorem d_Md_readProgram_12 : decode jMd_readProgram.cc 12 = .ok (.invokevirtual 374, 3) := by decide +kernel
theorem d_Md_readProgram_15 : decode jMd_readProgram.cc 15 = .ok (.ifCond .ne 21, 3) := by decide +kernel
theorem d_Md_readProgram_18 : decode jMd_readProgram.cc 18 = .ok (.aload_n 0, 1) := by decide +kernel
theorem d_Md_readProgram_19 : decode jMd_readProgram.cc 19 = .ok (.ldc 56, 2) := by decide +kernel
theorem d_Md_readProgram_21 : decode jMd_readProgram.cc 21 = .ok (.invokevirtual 374, 3) := by decide +kernel
theorem d_Md_readProgram_24 : decode jMd_readProgram.cc 24 = .ok (.ifCond .ne 12, 3) := by decide +kernel
theorem d_Md_readProgram_27 : decode jMd_readProgram.cc 27 = .ok (.aload_n 0, 1) := by decide +kernel
theorem d_Md_readProgram_28 : decode jMd_readProgram.cc 28 = .ok (.ldc 58, 2) := by decide +kernel
theorem d_Md_readProgram_30 : decode jMd_readProgram.cc 30 = .ok (.invokevirtual 374, 3) := by decide +kernel
theorem d_Md_readProgram_33 : decode jMd_readProgram.cc 33 = .ok (.ifCond .eq 10, 3) := by decide +kernel
theorem d_Md_readProgram_36 : decode jMd_readProgram.cc 36 = .ok (.aload_n 0, 1) := by decide +kernel
theorem d_Md_readProgram_37 : decode jMd_readProgram.cc 37 = .ok (.invokevirtual 447, 3) := by decide +kernel
theorem d_Md_readProgram_40 : decode jMd_readProgram.cc 40 = .ok (.goto (-40), 3) := by decide +kernel
theorem d_Md_readProgram_43 : decode jMd_readProgram.cc 43 = .ok (.aload_n 0, 1) := by decide +kernel
theorem d_Md_readProgram_44 : decode jMd_readProgram.cc 44 = .ok (.ldc 48, 2) := by decide +kernel
theorem d_Md_readProgram_46 : decode jMd_readProgram.cc 46 = .ok (.invokevirtual 420, 3) := by decide +kernel
theorem d_Md_readProgram_49 : decode jMd_readProgram.cc 49 = .ok (.istore_n 1, 1) := by decide +kernel
theorem d_Md_readProgram_50 : decode jMd_readProgram.cc 50 = .ok (.aload_n 0, 1) := by decide +kernel
theorem d_Md_readProgram_51 : decode jMd_readProgram.cc 51 = .ok (.aload_n 0, 1) := by decide +kernel
theorem d_Md_readProgram_52 : decode jMd_readProgram.cc 52 = .ok (.invokestatic 439, 3) := by decide +kernel
theorem d_Md_readProgram_55 : decode jMd_readProgram.cc 55 = .ok (.putfield 450, 3) := by decide +kernel
theorem d_Md_readProgram_58 : decode jMd_readProgram.cc 58 = .ok (.aload_n 0, 1) := by decide +kernel
theorem d_Md_readProgram_59 : decode jMd_readProgram.cc 59 = .ok (.ldc 50, 2) := by decide +kernel
theorem d_Md_readProgram_61 : decode jMd_readProgram.cc 61 = .ok (.invokevirtual 420, 3) := by decide +kernel
theorem d_Md_readProgram_64 : decode jMd_readProgram.cc 64 = .ok (.istore_n 1, 1) := by decide +kernel
theorem d_Md_readProgram_65 : decode jMd_readProgram.cc 65 = .ok (.aload_n 0, 1) := by decide +kernel
theorem d_Md_readProgram_66 : decode jMd_readProgram.cc 66 = .ok (.aload_n 0, 1) := by decide +kernel
theorem d_Md_readProgram_67 : decode jMd_readProgram.cc 67 = .ok (.invokestatic 439, 3) := by decide +kernel
theorem d_Md_readProgram_70 : decode jMd_readProgram.cc 70 = .ok (.putfield 453, 3) := by decide +kernel
theorem d_Md_readProgram_73 : decode jMd_readProgram.cc 73 = .ok (.aload_n 0, 1) := by decide +kernel
theorem d_Md_readProgram_74 : decode jMd_readProgram.cc 74 = .ok (.getfield 33, 3) := by decide +kernel
theorem d_Md_readProgram_77 : decode jMd_readProgram.cc 77 = .ok (.aload_n 0, 1) := by decide +kernel
theorem d_Md_readProgram_78 : decode jMd_readProgram.cc 78 = .ok (.getfield 363, 3) := by decide +kernel
theorem d_Md_readProgram_81 : decode jMd_readProgram.cc 81 = .ok (.iaload, 1) := by decide +kernel
theorem d_Md_readProgram_82 : decode jMd_readProgram.cc 82 = .ok (.iconst 4, 1) := by decide +kernel
theorem d_Md_readProgram_83 : decode jMd_readProgram.cc 83 = .ok (.if_icmp .eq 16, 3) := by decide +kernel
theorem d_Md_readProgram_86 : decode jMd_readProgram.cc 86 = .ok (.aload_n 0, 1) := by decide +kernel
theorem d_Md_readProgram_87 : decode jMd_readProgram.cc 87 = .ok (.iconst 1, 1) := by decide +kernel
theorem d_Md_readProgram_88 : decode jMd_readProgram.cc 88 = .ok (.aload_n 0, 1) := by decide +kernel
theorem d_Md_readProgram_89 : decode jMd_readProgram.cc 89 = .ok (.aload_n 0, 1) := by decide +kernel
theorem d_Md_readProgram_90 : decode jMd_readProgram.cc 90 = .ok (.getfield 363, 3) := by decide +kernel
theorem d_Md_readProgram_93 : decode jMd_readProgram.cc 93 = .ok (.invokevirtual 366, 3) := by decide +kernel
theorem d_Md_readProgram_96 : decode jMd_readProgram.cc 96 = .ok (.invokevirtual 370, 3) := by decide +kernel
theorem d_Md_readProgram_99 : decode jMd_readProgram.cc 99 = .ok (.return_, 1) := by decide +kernel
set_option maxHeartbeats 4000000 in
theorem s_Md_readProgram {g : Mg} {d : Nat} {K : Ou → Wd → Prop} {w : Wd} (h : Cal g LM jMd_is d [vA 0, vA 1006] w (fun o w1 => rIt o (fun b => K (.inr b) w1) (fun x2 => (¬ x2 = 0 → (Cal g LM jMd_readTold d [vA 0] w1 (fun o w3 => rVt o (fun b => K (.inr b) w3) (V g LM jMd_readProgram (d + 1) K 0 [(0, vA 0)] [] w3)))) ∧ (x2 = 0 → (Cal g LM jMd_is d [vA 0, vA 1007] w1 (fun o w4 => rIt o (fun b => K (.inr b) w4) (fun x5 => (¬ x5 = 0 → (Cal g LM jMd_readTold d [vA 0] w4 (fun o w6 => rVt o (fun b => K (.inr b) w6) (V g LM jMd_readProgram (d + 1) K 0 [(0, vA 0)] [] w6)))) ∧ (x5 = 0 → (Cal g LM jMd_is d [vA 0, vA 1008] w4 (fun o w7 => rIt o (fun b => K (.inr b) w7) (fun x8 => (¬ x8 = 0 → (Cal g LM jMd_readTold d [vA 0] w7 (fun o w9 => rVt o (fun b => K (.inr b) w9) (V g LM jMd_readProgram (d + 1) K 0 [(0, vA 0)] [] w9)))) ∧ (x8 = 0 → (Cal g LM jMd_is d [vA 0, vA 1009] w7 (fun o w10 => rIt o (fun b => K (.inr b) w10) (fun x11 => (x11 = 0 → (Cal g LM jMd_must d [vA 0, vA 1004] w10 (fun o w12 => rIt o (fun b => K (.inr b) w12) (fun x13 => Cal g LM jMd_readBlock d [vA 0] w12 (fun o w14 => rIt o (fun b => K (.inr b) w14) (fun x15 => Cal g LM jMd_must d [vA 0, vA 1005] (up w14 0 41 x15) (fun o w16 => rIt o (fun b => K (.inr b) w16) (fun x17 => Cal g LM jMd_readBlock d [vA 0] w16 (fun o w18 => rIt o (fun b => K (.inr b) w18) (fun x19 => (0 ≤ (w18 0 11) ∧ (w18 0 11) < 4022) ∧ (((w18 4 ((w18 0 11).toNat)) = 4 → (K (.inl none) (up w18 0 42 x19))) ∧ (¬ (w18 4 ((w18 0 11).toNat)) = 4 → (Cal g LM jMd_placeOf d [vA 0, vI (w18 0 11)] (up w18 0 42 x19) (fun o w20 => rIt o (fun b => K (.inr b) w20) (fun x21 => Cal g LM jMd_fail d [vA 0, vI 1, vI x21] w20 (fun o w22 => rVt o (fun b => K (.inr b) w22) (K (.inl none) w22))))))))))))))))) ∧ (¬ x11 = 0 → (Cal g LM jMd_readTold d [vA 0] w10 (fun o w23 => rVt o (fun b => K (.inr b) w23) (V g LM jMd_readProgram (d + 1) K 0 [(0, vA 0)] [] w23))))))))))))))))))) : V g LM jMd_readProgram (d + 1) K 0 [(0, vA 0)] [] w := by
  refine v_aload_n (pc := 0) d_Md_readProgram_0 rfl (.head _) ?_
  refine v_ldcs (pc := 1) (n := 5) (tx := "column") d_Md_readProgram_1 (by decide +kernel) ?_
  refine v_callV (pc := 3) (J' := jMd_is) (d' := d) (o := 0) (ci := 13) (N := 93) (T := cT13) (As := [vA 1006]) d_Md_readProgram_3 ml_Md_374 cM_0.1 cM_0.2 (by decide) rfl rfl (Nat.le_of_ble_eq_true rfl) (Nat.le_refl _) rfl (Cal.weak h (fun o w1 h => ?_))
  rcases rIt_of h with ⟨x2, rfl, h⟩ | ⟨b, rfl, h⟩
  rotate_left
  · exact h
  refine v_ifne (pc := 6) (tgt := 36) d_Md_readProgram_6 (by decide) (fun c => ?_) (fun c => ?_)
  · replace h := h.1 c
    refine v_aload_n (pc := 36) d_Md_readProgram_36 rfl (.head _) ?_
    refine v_callV (pc := 37) (J' := jMd_readTold) (d' := d) (o := 0) (ci := 13) (N := 93) (T := cT13) (As := []) d_Md_readProgram_37 ml_Md_447 cM_0.1 cM_0.2 (by decide) rfl rfl (Nat.le_of_ble_eq_true rfl) (Nat.le_refl _) rfl (Cal.weak h (fun o w3 h => ?_))
    rcases rVt_of h with ⟨rfl, h⟩ | ⟨b, rfl, h⟩
    rotate_left
    · exact h
    refine v_goto (pc := 40) (tgt := 0) d_Md_readProgram_40 (by decide) ?_
    exact v_sub (List.forall_mem_cons.mpr ⟨(.head _), (fun _ z => absurd z List.not_mem_nil)⟩) h
  · replace h := h.2 c
    refine v_aload_n (pc := 9) d_Md_readProgram_9 rfl (.head _) ?_
    refine v_ldcs (pc := 10) (n := 6) (tx := "node") d_Md_readProgram_10 (by decide +kernel) ?_
    refine v_callV (pc := 12) (J' := jMd_is) (d' := d) (o := 0) (ci := 13) (N := 93) (T := cT13) (As := [vA 1007]) d_Md_readProgram_12 ml_Md_374 cM_0.1 cM_0.2 (by decide) rfl rfl (Nat.le_of_ble_eq_true rfl) (Nat.le_refl _) rfl (Cal.weak h (fun o w4 h => ?_))
    rcases rIt_of h with ⟨x5, rfl, h⟩ | ⟨b, rfl, h⟩
    rotate_left
    · exact h
    refine v_ifne (pc := 15) (tgt := 36) d_Md_readProgram_15 (by decide) (fun c => ?_) (fun c => ?_)
    · replace h := h.1 c
      refine v_aload_n (pc := 36) d_Md_readProgram_36 rfl (.head _) ?_
      refine v_callV (pc := 37) (J' := jMd_readTold) (d' := d) (o := 0) (ci := 13) (N := 93) (T := cT13) (As := []) d_Md_readProgram_37 ml_Md_447 cM_0.1 cM_0.2 (by decide) rfl rfl (Nat.le_of_ble_eq_true rfl) (Nat.le_refl _) rfl (Cal.weak h (fun o w6 h => ?_))
      rcases rVt_of h with ⟨rfl, h⟩ | ⟨b, rfl, h⟩
      rotate_left
      · exact h
      refine v_goto (pc := 40) (tgt := 0) d_Md_readProgram_40 (by decide) ?_
      exact v_sub (List.forall_mem_cons.mpr ⟨(.head _), (fun _ z => absurd z List.not_mem_nil)⟩) h
    · replace h := h.2 c
      refine v_aload_n (pc := 18) d_Md_readProgram_18 rfl (.head _) ?_
      refine v_ldcs (pc := 19) (n := 7) (tx := "fold") d_Md_readProgram_19 (by decide +kernel) ?_
      refine v_callV (pc := 21) (J' := jMd_is) (d' := d) (o := 0) (ci := 13) (N := 93) (T := cT13) (As := [vA 1008]) d_Md_readProgram_21 ml_Md_374 cM_0.1 cM_0.2 (by decide) rfl rfl (Nat.le_of_ble_eq_true rfl) (Nat.le_refl _) rfl (Cal.weak h (fun o w7 h => ?_))
      rcases rIt_of h with ⟨x8, rfl, h⟩ | ⟨b, rfl, h⟩
      rotate_left
      · exact h
      refine v_ifne (pc := 24) (tgt := 36) d_Md_readProgram_24 (by decide) (fun c => ?_) (fun c => ?_)
      · replace h := h.1 c
        refine v_aload_n (pc := 36) d_Md_readProgram_36 rfl (.head _) ?_
        refine v_callV (pc := 37) (J' := jMd_readTold) (d' := d) (o := 0) (ci := 13) (N := 93) (T := cT13) (As := []) d_Md_readProgram_37 ml_Md_447 cM_0.1 cM_0.2 (by decide) rfl rfl (Nat.le_of_ble_eq_true rfl) (Nat.le_refl _) rfl (Cal.weak h (fun o w9 h => ?_))
        rcases rVt_of h with ⟨rfl, h⟩ | ⟨b, rfl, h⟩
        rotate_left
        · exact h
        refine v_goto (pc := 40) (tgt := 0) d_Md_readProgram_40 (by decide) ?_
        exact v_sub (List.forall_mem_cons.mpr ⟨(.head _), (fun _ z => absurd z List.not_mem_nil)⟩) h
      · replace h := h.2 c
        refine v_aload_n (pc := 27) d_Md_readProgram_27 rfl (.head _) ?_
        refine v_ldcs (pc := 28) (n := 8) (tx := "global") d_Md_readProgram_28 (by decide +kernel) ?_
        refine v_callV (pc := 30) (J' := jMd_is) (d' := d) (o := 0) (ci := 13) (N := 93) (T := cT13) (As := [vA 1009]) d_Md_readProgram_30 ml_Md_374 cM_0.1 cM_0.2 (by decide) rfl rfl (Nat.le_of_ble_eq_true rfl) (Nat.le_refl _) rfl (Cal.weak h (fun o w10 h => ?_))
        rcases rIt_of h with ⟨x11, rfl, h⟩ | ⟨b, rfl, h⟩
        rotate_left
        · exact h
        refine v_ifeq (pc := 33) (tgt := 43) d_Md_readProgram_33 (by decide) (fun c => ?_) (fun c => ?_)
        · replace h := h.1 c
          refine v_aload_n (pc := 43) d_Md_readProgram_43 rfl (.head _) ?_
          refine v_ldcs (pc := 44) (n := 3) (tx := "start") d_Md_readProgram_44 (by decide +kernel) ?_
          refine v_callV (pc := 46) (J' := jMd_must) (d' := d) (o := 0) (ci := 13) (N := 93) (T := cT13) (As := [vA 1004]) d_Md_readProgram_46 ml_Md_420 cM_0.1 cM_0.2 (by decide) rfl rfl (Nat.le_of_ble_eq_true rfl) (Nat.le_refl _) rfl (Cal.weak h (fun o w12 h => ?_))
          rcases rIt_of h with ⟨x13, rfl, h⟩ | ⟨b, rfl, h⟩
          rotate_left
          · exact h
          refine v_istore_n (pc := 49) (ls' := [(1, vI x13), (0, vA 0)]) d_Md_readProgram_49 rfl (by decide) rfl ?_
          refine v_aload_n (pc := 50) d_Md_readProgram_50 rfl (.tail _ (.head _)) ?_
          refine v_aload_n (pc := 51) d_Md_readProgram_51 rfl (.tail _ (.head _)) ?_
          refine v_callS (pc := 52) (J' := jMd_readBlock) (d' := d) (As := [vA 0]) d_Md_readProgram_52 ml_Md_439 rfl (Nat.le_of_ble_eq_true rfl) (Nat.le_refl _) rfl (Cal.weak h (fun o w14 h => ?_))
          rcases rIt_of h with ⟨x15, rfl, h⟩ | ⟨b, rfl, h⟩
          rotate_left
          · exact h
          refine v_puti (pc := 55) d_Md_readProgram_55 fp_Md_450 cM_0.1 cM_0.2 (by decide) rfl ?_
          refine v_aload_n (pc := 58) d_Md_readProgram_58 rfl (.tail _ (.head _)) ?_
          refine v_ldcs (pc := 59) (n := 4) (tx := "round") d_Md_readProgram_59 (by decide +kernel) ?_
          refine v_callV (pc := 61) (J' := jMd_must) (d' := d) (o := 0) (ci := 13) (N := 93) (T := cT13) (As := [vA 1005]) d_Md_readProgram_61 ml_Md_420 cM_0.1 cM_0.2 (by decide) rfl rfl (Nat.le_of_ble_eq_true rfl) (Nat.le_refl _) rfl (Cal.weak h (fun o w16 h => ?_))
          rcases rIt_of h with ⟨x17, rfl, h⟩ | ⟨b, rfl, h⟩
          rotate_left
          · exact h
          refine v_istore_n (pc := 64) (ls' := [(1, vI x17), (0, vA 0)]) d_Md_readProgram_64 rfl (by decide) rfl ?_
          refine v_aload_n (pc := 65) d_Md_readProgram_65 rfl (.tail _ (.head _)) ?_
          refine v_aload_n (pc := 66) d_Md_readProgram_66 rfl (.tail _ (.head _)) ?_
          refine v_callS (pc := 67) (J' := jMd_readBlock) (d' := d) (As := [vA 0]) d_Md_readProgram_67 ml_Md_439 rfl (Nat.le_of_ble_eq_true rfl) (Nat.le_refl _) rfl (Cal.weak h (fun o w18 h => ?_))
          rcases rIt_of h with ⟨x19, rfl, h⟩ | ⟨b, rfl, h⟩
          rotate_left
          · exact h
          refine v_puti (pc := 70) d_Md_readProgram_70 fp_Md_453 cM_0.1 cM_0.2 (by decide) rfl ?_
          refine v_aload_n (pc := 73) d_Md_readProgram_73 rfl (.tail _ (.head _)) ?_
          refine v_getr (C := "") (pc := 74) (r := 4) d_Md_readProgram_74 fl_Md_33 cM_0.1 cM_0.2 (Or.inr ⟨_, rfl⟩) rM_0_6 ?_
          refine v_aload_n (pc := 77) d_Md_readProgram_77 rfl (.tail _ (.head _)) ?_
          refine v_geti (pc := 78) (x := (w18 0 11)) d_Md_readProgram_78 fl_Md_363 cM_0.1 cM_0.2 (Or.inl rfl) rfl ?_
          refine v_iald (pc := 81) (x := (w18 4 ((w18 0 11).toNat))) d_Md_readProgram_81 cM_4.1 cM_4.2 rfl h.1 ?_
          replace h := h.2
          refine v_iconst (pc := 82) d_Md_readProgram_82 (by decide) ?_
          refine v_icmpeq (pc := 83) (tgt := 99) d_Md_readProgram_83 (by decide) (fun c => ?_) (fun c => ?_)
          · replace h := h.1 c
            exact v_vret (pc := 99) d_Md_readProgram_99 rfl h
          · replace h := h.2 c
            refine v_aload_n (pc := 86) d_Md_readProgram_86 rfl (.tail _ (.head _)) ?_
            refine v_iconst (pc := 87) d_Md_readProgram_87 (by decide) ?_
            refine v_aload_n (pc := 88) d_Md_readProgram_88 rfl (.tail _ (.head _)) ?_
            refine v_aload_n (pc := 89) d_Md_readProgram_89 rfl (.tail _ (.head _)) ?_
            refine v_geti (pc := 90) (x := (w18 0 11)) d_Md_readProgram_90 fl_Md_363 cM_0.1 cM_0.2 (Or.inl rfl) rfl ?_
            refine v_callV (pc := 93) (J' := jMd_placeOf) (d' := d) (o := 0) (ci := 13) (N := 93) (T := cT13) (As := [vI (w18 0 11)]) d_Md_readProgram_93 ml_Md_366 cM_0.1 cM_0.2 (by decide) rfl rfl (Nat.le_of_ble_eq_true rfl) (Nat.le_refl _) rfl (Cal.weak h (fun o w20 h => ?_))
            rcases rIt_of h with ⟨x21, rfl, h⟩ | ⟨b, rfl, h⟩
            rotate_left
            · exact h
            refine v_callV (pc := 96) (J' := jMd_fail) (d' := d) (o := 0) (ci := 13) (N := 93) (T := cT13) (As := [vI 1, vI x21]) d_Md_readProgram_96 ml_Md_370 cM_0.1 cM_0.2 (by decide) rfl rfl (Nat.le_of_ble_eq_true rfl) (Nat.le_refl _) rfl (Cal.weak h (fun o w22 h => ?_))
            rcases rVt_of h with ⟨rfl, h⟩ | ⟨b, rfl, h⟩
            rotate_left
            · exact h
            exact v_vret (pc := 99) d_Md_readProgram_99 rfl h
        · replace h := h.2 c
          refine v_aload_n (pc := 36) d_Md_readProgram_36 rfl (.head _) ?_
          refine v_callV (pc := 37) (J' := jMd_readTold) (d' := d) (o := 0) (ci := 13) (N := 93) (T := cT13) (As := []) d_Md_readProgram_37 ml_Md_447 cM_0.1 cM_0.2 (by decide) rfl rfl (Nat.le_of_ble_eq_true rfl) (Nat.le_refl _) rfl (Cal.weak h (fun o w23 h => ?_))
          rcases rVt_of h with ⟨rfl, h⟩ | ⟨b, rfl, h⟩
          rotate_left
          · exact h
          refine v_goto (pc := 40) (tgt := 0) d_Md_readProgram_40 (by decide) ?_
          exact v_sub (List.forall_mem_cons.mpr ⟨(.head _), (fun _ z => absurd z List.not_mem_nil)⟩) h
set_option maxHeartbeats 4000000 in
theorem s_Md_readProgram_0 {g : Mg} {d : Nat} {K : Ou → Wd → Prop} {w : Wd} (h : Cal g LM jMd_is d [vA 0, vA 1006] w (fun o w1 => rIt o (fun b => K (.inr b) w1) (fun x2 => (¬ x2 = 0 → (Cal g LM jMd_readTold d [vA 0] w1 (fun o w3 => rVt o (fun b => K (.inr b) w3) (V g LM jMd_readProgram (d + 1) K 0 [(0, vA 0)] [] w3)))) ∧ (x2 = 0 → (Cal g LM jMd_is d [vA 0, vA 1007] w1 (fun o w4 => rIt o (fun b => K (.inr b) w4) (fun x5 => (¬ x5 = 0 → (Cal g LM jMd_readTold d [vA 0] w4 (fun o w6 => rVt o (fun b => K (.inr b) w6) (V g LM jMd_readProgram (d + 1) K 0 [(0, vA 0)] [] w6)))) ∧ (x5 = 0 → (Cal g LM jMd_is d [vA 0, vA 1008] w4 (fun o w7 => rIt o (fun b => K (.inr b) w7) (fun x8 => (¬ x8 = 0 → (Cal g LM jMd_readTold d [vA 0] w7 (fun o w9 => rVt o (fun b => K (.inr b) w9) (V g LM jMd_readProgram (d + 1) K 0 [(0, vA 0)] [] w9)))) ∧ (x8 = 0 → (Cal g LM jMd_is d [vA 0, vA 1009] w7 (fun o w10 => rIt o (fun b => K (.inr b) w10) (fun x11 => (x11 = 0 → (Cal g LM jMd_must d [vA 0, vA 1004] w10 (fun o w12 => rIt o (fun b => K (.inr b) w12) (fun x13 => Cal g LM jMd_readBlock d [vA 0] w12 (fun o w14 => rIt o (fun b => K (.inr b) w14) (fun x15 => Cal g LM jMd_must d [vA 0, vA 1005] (up w14 0 41 x15) (fun o w16 => rIt o (fun b => K (.inr b) w16) (fun x17 => Cal g LM jMd_readBlock d [vA 0] w16 (fun o w18 => rIt o (fun b => K (.inr b) w18) (fun x19 => (0 ≤ (w18 0 11) ∧ (w18 0 11) < 4022) ∧ (((w18 4 ((w18 0 11).toNat)) = 4 → (K (.inl none) (up w18 0 42 x19))) ∧ (¬ (w18 4 ((w18 0 11).toNat)) = 4 → (Cal g LM jMd_placeOf d [vA 0, vI (w18 0 11)] (up w18 0 42 x19) (fun o w20 => rIt o (fun b => K (.inr b) w20) (fun x21 => Cal g LM jMd_fail d [vA 0, vI 1, vI x21] w20 (fun o w22 => rVt o (fun b => K (.inr b) w22) (K (.inl none) w22))))))))))))))))) ∧ (¬ x11 = 0 → (Cal g LM jMd_readTold d [vA 0] w10 (fun o w23 => rVt o (fun b => K (.inr b) w23) (V g LM jMd_readProgram (d + 1) K 0 [(0, vA 0)] [] w23))))))))))))))))))) : V g LM jMd_readProgram (d + 1) K 0 [(0, vA 0)] [] w := by
  refine v_aload_n (pc := 0) d_Md_readProgram_0 rfl (.head _) ?_
  refine v_ldcs (pc := 1) (n := 5) (tx := "column") d_Md_readProgram_1 (by decide +kernel) ?_
  refine v_callV (pc := 3) (J' := jMd_is) (d' := d) (o := 0) (ci := 13) (N := 93) (T := cT13) (As := [vA 1006]) d_Md_readProgram_3 ml_Md_374 cM_0.1 cM_0.2 (by decide) rfl rfl (Nat.le_of_ble_eq_true rfl) (Nat.le_refl _) rfl (Cal.weak h (fun o w1 h => ?_))
  rcases rIt_of h with ⟨x2, rfl, h⟩ | ⟨b, rfl, h⟩
  rotate_left
  · exact h
  refine v_ifne (pc := 6) (tgt := 36) d_Md_readProgram_6 (by decide) (fun c => ?_) (fun c => ?_)
  · replace h := h.1 c
    refine v_aload_n (pc := 36) d_Md_readProgram_36 rfl (.head _) ?_
    refine v_callV (pc := 37) (J' := jMd_readTold) (d' := d) (o := 0) (ci := 13) (N := 93) (T := cT13) (As := []) d_Md_readProgram_37 ml_Md_447 cM_0.1 cM_0.2 (by decide) rfl rfl (Nat.le_of_ble_eq_true rfl) (Nat.le_refl _) rfl (Cal.weak h (fun o w3 h => ?_))
    rcases rVt_of h with ⟨rfl, h⟩ | ⟨b, rfl, h⟩
    rotate_left
    · exact h
    refine v_goto (pc := 40) (tgt := 0) d_Md_readProgram_40 (by decide) ?_
    exact v_sub (List.forall_mem_cons.mpr ⟨(.head _), (fun _ z => absurd z List.not_mem_nil)⟩) h
  · replace h := h.2 c
    refine v_aload_n (pc := 9) d_Md_readProgram_9 rfl (.head _) ?_
    refine v_ldcs (pc := 10) (n := 6) (tx := "node") d_Md_readProgram_10 (by decide +kernel) ?_
    refine v_callV (pc := 12) (J' := jMd_is) (d' := d) (o := 0) (ci := 13) (N := 93) (T := cT13) (As := [vA 1007]) d_Md_readProgram_12 ml_Md_374 cM_0.1 cM_0.2 (by decide) rfl rfl (Nat.le_of_ble_eq_true rfl) (Nat.le_refl _) rfl (Cal.weak h (fun o w4 h => ?_))
    rcases rIt_of h with ⟨x5, rfl, h⟩ | ⟨b, rfl, h⟩
    rotate_left
    · exact h
    refine v_ifne (pc := 15) (tgt := 36) d_Md_readProgram_15 (by decide) (fun c => ?_) (fun c => ?_)
    · replace h := h.1 c
      refine v_aload_n (pc := 36) d_Md_readProgram_36 rfl (.head _) ?_
      refine v_callV (pc := 37) (J' := jMd_readTold) (d' := d) (o := 0) (ci := 13) (N := 93) (T := cT13) (As := []) d_Md_readProgram_37 ml_Md_447 cM_0.1 cM_0.2 (by decide) rfl rfl (Nat.le_of_ble_eq_true rfl) (Nat.le_refl _) rfl (Cal.weak h (fun o w6 h => ?_))
      rcases rVt_of h with ⟨rfl, h⟩ | ⟨b, rfl, h⟩
      rotate_left
      · exact h
      refine v_goto (pc := 40) (tgt := 0) d_Md_readProgram_40 (by decide) ?_
      exact v_sub (List.forall_mem_cons.mpr ⟨(.head _), (fun _ z => absurd z List.not_mem_nil)⟩) h
    · replace h := h.2 c
      refine v_aload_n (pc := 18) d_Md_readProgram_18 rfl (.head _) ?_
      refine v_ldcs (pc := 19) (n := 7) (tx := "fold") d_Md_readProgram_19 (by decide +kernel) ?_
      refine v_callV (pc := 21) (J' := jMd_is) (d' := d) (o := 0) (ci := 13) (N := 93) (T := cT13) (As := [vA 1008]) d_Md_readProgram_21 ml_Md_374 cM_0.1 cM_0.2 (by decide) rfl rfl (Nat.le_of_ble_eq_true rfl) (Nat.le_refl _) rfl (Cal.weak h (fun o w7 h => ?_))
      rcases rIt_of h with ⟨x8, rfl, h⟩ | ⟨b, rfl, h⟩
      rotate_left
      · exact h
      refine v_ifne (pc := 24) (tgt := 36) d_Md_readProgram_24 (by decide) (fun c => ?_) (fun c => ?_)
      · replace h := h.1 c
        refine v_aload_n (pc := 36) d_Md_readProgram_36 rfl (.head _) ?_
        refine v_callV (pc := 37) (J' := jMd_readTold) (d' := d) (o := 0) (ci := 13) (N := 93) (T := cT13) (As := []) d_Md_readProgram_37 ml_Md_447 cM_0.1 cM_0.2 (by decide) rfl rfl (Nat.le_of_ble_eq_true rfl) (Nat.le_refl _) rfl (Cal.weak h (fun o w9 h => ?_))
        rcases rVt_of h with ⟨rfl, h⟩ | ⟨b, rfl, h⟩
        rotate_left
        · exact h
        refine v_goto (pc := 40) (tgt := 0) d_Md_readProgram_40 (by decide) ?_
        exact v_sub (List.forall_mem_cons.mpr ⟨(.head _), (fun _ z => absurd z List.not_mem_nil)⟩) h
      · replace h := h.2 c
        refine v_aload_n (pc := 27) d_Md_readProgram_27 rfl (.head _) ?_
        refine v_ldcs (pc := 28) (n := 8) (tx := "global") d_Md_readProgram_28 (by decide +kernel) ?_
        refine v_callV (pc := 30) (J' := jMd_is) (d' := d) (o := 0) (ci := 13) (N := 93) (T := cT13) (As := [vA 1009]) d_Md_readProgram_30 ml_Md_374 cM_0.1 cM_0.2 (by decide) rfl rfl (Nat.le_of_ble_eq_true rfl) (Nat.le_refl _) rfl (Cal.weak h (fun o w10 h => ?_))
        rcases rIt_of h with ⟨x11, rfl, h⟩ | ⟨b, rfl, h⟩
        rotate_left
        · exact h
        refine v_ifeq (pc := 33) (tgt := 43) d_Md_readProgram_33 (by decide) (fun c => ?_) (fun c => ?_)
        · replace h := h.1 c
          refine v_aload_n (pc := 43) d_Md_readProgram_43 rfl (.head _) ?_
          refine v_ldcs (pc := 44) (n := 3) (tx := "start") d_Md_readProgram_44 (by decide +kernel) ?_
          refine v_callV (pc := 46) (J' := jMd_must) (d' := d) (o := 0) (ci := 13) (N := 93) (T := cT13) (As := [vA 1004]) d_Md_readProgram_46 ml_Md_420 cM_0.1 cM_0.2 (by decide) rfl rfl (Nat.le_of_ble_eq_true rfl) (Nat.le_refl _) rfl (Cal.weak h (fun o w12 h => ?_))
          rcases rIt_of h with ⟨x13, rfl, h⟩ | ⟨b, rfl, h⟩
          rotate_left
          · exact h
          refine v_istore_n (pc := 49) (ls' := [(1, vI x13), (0, vA 0)]) d_Md_readProgram_49 rfl (by decide) rfl ?_
          refine v_aload_n (pc := 50) d_Md_readProgram_50 rfl (.tail _ (.head _)) ?_
          refine v_aload_n (pc := 51) d_Md_readProgram_51 rfl (.tail _ (.head _)) ?_
          refine v_callS (pc := 52) (J' := jMd_readBlock) (d' := d) (As := [vA 0]) d_Md_readProgram_52 ml_Md_439 rfl (Nat.le_of_ble_eq_true rfl) (Nat.le_refl _) rfl (Cal.weak h (fun o w14 h => ?_))
          rcases rIt_of h with ⟨x15, rfl, h⟩ | ⟨b, rfl, h⟩
          rotate_left
          · exact h
          refine v_puti (pc := 55) d_Md_readProgram_55 fp_Md_450 cM_0.1 cM_0.2 (by decide) rfl ?_
          refine v_aload_n (pc := 58) d_Md_readProgram_58 rfl (.tail _ (.head _)) ?_
          refine v_ldcs (pc := 59) (n := 4) (tx := "round") d_Md_readProgram_59 (by decide +kernel) ?_
          refine v_callV (pc := 61) (J' := jMd_must) (d' := d) (o := 0) (ci := 13) (N := 93) (T := cT13) (As := [vA 1005]) d_Md_readProgram_61 ml_Md_420 cM_0.1 cM_0.2 (by decide) rfl rfl (Nat.le_of_ble_eq_true rfl) (Nat.le_refl _) rfl (Cal.weak h (fun o w16 h => ?_))
          rcases rIt_of h with ⟨x17, rfl, h⟩ | ⟨b, rfl, h⟩
          rotate_left
          · exact h
          refine v_istore_n (pc := 64) (ls' := [(1, vI x17), (0, vA 0)]) d_Md_readProgram_64 rfl (by decide) rfl ?_
          refine v_aload_n (pc := 65) d_Md_readProgram_65 rfl (.tail _ (.head _)) ?_
          refine v_aload_n (pc := 66) d_Md_readProgram_66 rfl (.tail _ (.head _)) ?_
          refine v_callS (pc := 67) (J' := jMd_readBlock) (d' := d) (As := [vA 0]) d_Md_readProgram_67 ml_Md_439 rfl (Nat.le_of_ble_eq_true rfl) (Nat.le_refl _) rfl (Cal.weak h (fun o w18 h => ?_))
          rcases rIt_of h with ⟨x19, rfl, h⟩ | ⟨b, rfl, h⟩
          rotate_left
          · exact h
          refine v_puti (pc := 70) d_Md_readProgram_70 fp_Md_453 cM_0.1 cM_0.2 (by decide) rfl ?_
          refine v_aload_n (pc := 73) d_Md_readProgram_73 rfl (.tail _ (.head _)) ?_
          refine v_getr (C := "") (pc := 74) (r := 4) d_Md_readProgram_74 fl_Md_33 cM_0.1 cM_0.2 (Or.inr ⟨_, rfl⟩) rM_0_6 ?_
          refine v_aload_n (pc := 77) d_Md_readProgram_77 rfl (.tail _ (.head _)) ?_
          refine v_geti (pc := 78) (x := (w18 0 11)) d_Md_readProgram_78 fl_Md_363 cM_0.1 cM_0.2 (Or.inl rfl) rfl ?_
          refine v_iald (pc := 81) (x := (w18 4 ((w18 0 11).toNat))) d_Md_readProgram_81 cM_4.1 cM_4.2 rfl h.1 ?_
          replace h := h.2
          refine v_iconst (pc := 82) d_Md_readProgram_82 (by decide) ?_
          refine v_icmpeq (pc := 83) (tgt := 99) d_Md_readProgram_83 (by decide) (fun c => ?_) (fun c => ?_)
          · replace h := h.1 c
            exact v_vret (pc := 99) d_Md_readProgram_99 rfl h
          · replace h := h.2 c
            refine v_aload_n (pc := 86) d_Md_readProgram_86 rfl (.tail _ (.head _)) ?_
            refine v_iconst (pc := 87) d_Md_readProgram_87 (by decide) ?_
            refine v_aload_n (pc := 88) d_Md_readProgram_88 rfl (.tail _ (.head _)) ?_
            refine v_aload_n (pc := 89) d_Md_readProgram_89 rfl (.tail _ (.head _)) ?_
            refine v_geti (pc := 90) (x := (w18 0 11)) d_Md_readProgram_90 fl_Md_363 cM_0.1 cM_0.2 (Or.inl rfl) rfl ?_
            refine v_callV (pc := 93) (J' := jMd_placeOf) (d' := d) (o := 0) (ci := 13) (N := 93) (T := cT13) (As := [vI (w18 0 11)]) d_Md_readProgram_93 ml_Md_366 cM_0.1 cM_0.2 (by decide) rfl rfl (Nat.le_of_ble_eq_true rfl) (Nat.le_refl _) rfl (Cal.weak h (fun o w20 h => ?_))
            rcases rIt_of h with ⟨x21, rfl, h⟩ | ⟨b, rfl, h⟩
            rotate_left
            · exact h
            refine v_callV (pc := 96) (J' := jMd_fail) (d' := d) (o := 0) (ci := 13) (N := 93) (T := cT13) (As := [vI 1, vI x21]) d_Md_readProgram_96 ml_Md_370 cM_0.1 cM_0.2 (by decide) rfl rfl (Nat.le_of_ble_eq_true rfl) (Nat.le_refl _) rfl (Cal.weak h (fun o w22 h => ?_))
            rcases rVt_of h with ⟨rfl, h⟩ | ⟨b, rfl, h⟩
            rotate_left
            · exact h
            exact v_vret (pc := 99) d_Md_readProgram_99 rfl h
        · replace h := h.2 c
          refine v_aload_n (pc := 36) d_Md_readProgram_36 rfl (.head _) ?_
          refine v_callV (pc := 37) (J' := jMd_readTold) (d' := d) (o := 0) (ci := 13) (N := 93) (T := cT13) (As := []) d_Md_readProgram_37 ml_Md_447 cM_0.1 cM_0.2 (by decide) rfl rfl (Nat.le_of_ble_eq_true rfl) (Nat.le_refl _) rfl (Cal.weak h (fun o w23 h => ?_))
          rcases rVt_of h with ⟨rfl, h⟩ | ⟨b, rfl, h⟩
          rotate_left
          · exact h
          refine v_goto (pc := 40) (tgt := 0) d_Md_readProgram_40 (by decide) ?_
          exact v_sub (List.forall_mem_cons.mpr ⟨(.head _), (fun _ z => absurd z List.not_mem_nil)⟩) h
theorem d_Md_blame_0 : decode jMd_blame.cc 0 = .ok (.aload_n 0, 1) := by decide +kernel
theorem d_Md_blame_1 : decode jMd_blame.cc 1 = .ok (.iload_n 2, 1) := by decide +kernel
theorem d_Md_blame_2 : decode jMd_blame.cc 2 = .ok (.invokevirtual 366, 3) := by decide +kernel
theorem d_Md_blame_5 : decode jMd_blame.cc 5 = .ok (.istore_n 3, 1) := by decide +kernel
theorem d_Md_blame_6 : decode jMd_blame.cc 6 = .ok (.aload_n 0, 1) := by decide +kernel
theorem d_Md_blame_7 : decode jMd_blame.cc 7 = .ok (.getfield 456, 3) := by decide +kernel
theorem d_Md_blame_10 : decode jMd_blame.cc 10 = .ok (.ifCond .eq 27, 3) := by decide +kernel
theorem d_Md_blame_13 : decode jMd_blame.cc 13 = .ok (.iload_n 3, 1) := by decide +kernel
theorem d_Md_blame_14 : decode jMd_blame.cc 14 = .ok (.aload_n 0, 1) := by decide +kernel
theorem d_Md_blame_15 : decode jMd_blame.cc 15 = .ok (.getfield 459, 3) := by decide +kernel
theorem d_Md_blame_18 : decode jMd_blame.cc 18 = .ok (.if_icmp .lt 19, 3) := by decide +kernel
theorem d_Md_blame_21 : decode jMd_blame.cc 21 = .ok (.iload_n 3, 1) := by decide +kernel
theorem d_Md_blame_22 : decode jMd_blame.cc 22 = .ok (.aload_n 0, 1) := by decide +kernel
theorem d_Md_blame_23 : decode jMd_blame.cc 23 = .ok (.getfield 459, 3) := by decide +kernel
theorem d_Md_blame_26 : decode jMd_blame.cc 26 = .ok (.if_icmp .ne 21, 3) := by decide +kernel
theorem d_Md_blame_29 : decode jMd_blame.cc 29 = .ok (.iload_n 1, 1) := by decide +kernel
theorem d_Md_blame_30 : decode jMd_blame.cc 30 = .ok (.aload_n 0, 1) := by decide +kernel
theorem d_Md_blame_31 : decode jMd_blame.cc 31 = .ok (.getfield 456, 3) := by decide +kernel
theorem d_Md_blame_34 : decode jMd_blame.cc 34 = .ok (.if_icmp .ge 13, 3) := by decide +kernel
theorem d_Md_blame_37 : decode jMd_blame.cc 37 = .ok (.aload_n 0, 1) := by decide +kernel
theorem d_Md_blame_38 : decode jMd_blame.cc 38 = .ok (.iload_n 1, 1) := by decide +kernel
theorem d_Md_blame_39 : decode jMd_blame.cc 39 = .ok (.putfield 456, 3) := by decide +kernel
theorem d_Md_blame_42 : decode jMd_blame.cc 42 = .ok (.aload_n 0, 1) := by decide +kernel
theorem d_Md_blame_43 : decode jMd_blame.cc 43 = .ok (.iload_n 3, 1) := by decide +kernel
theorem d_Md_blame_44 : decode jMd_blame.cc 44 = .ok (.putfield 459, 3) := by decide +kernel
theorem d_Md_blame_47 : decode jMd_blame.cc 47 = .ok (.return_, 1) := by decide +kernel
set_option maxHeartbeats 4000000 in
theorem s_Md_blame {g : Mg} {d : Nat} {K : Ou → Wd → Prop} {w : Wd} {p1 : Int} {p2 : Int} (h : Cal g LM jMd_placeOf d [vA 0, vI p2] w (fun o w1 => rIt o (fun b => K (.inr b) w1) (fun x2 => ((w1 0 46) = 0 → (K (.inl none) (up (up w1 0 46 p1) 0 47 x2))) ∧ (¬ (w1 0 46) = 0 → ((x2 < (w1 0 47) → (K (.inl none) (up (up w1 0 46 p1) 0 47 x2))) ∧ (¬ x2 < (w1 0 47) → ((¬ x2 = (w1 0 47) → (K (.inl none) w1)) ∧ (x2 = (w1 0 47) → (((w1 0 46) ≤ p1 → (K (.inl none) w1)) ∧ (¬ (w1 0 46) ≤ p1 → (K (.inl none) (up (up w1 0 46 p1) 0 47 x2)))))))))))) : V g LM jMd_blame (d + 1) K 0 [(0, vA 0), (1, vI p1), (2, vI p2)] [] w := by
  refine v_aload_n (pc := 0) d_Md_blame_0 rfl (.head _) ?_
  refine v_iload_n (pc := 1) d_Md_blame_1 rfl (.tail _ (.tail _ (.head _))) ?_
  refine v_callV (pc := 2) (J' := jMd_placeOf) (d' := d) (o := 0) (ci := 13) (N := 93) (T := cT13) (As := [vI p2]) d_Md_blame_2 ml_Md_366 cM_0.1 cM_0.2 (by decide) rfl rfl (Nat.le_of_ble_eq_true rfl) (Nat.le_refl _) rfl (Cal.weak h (fun o w1 h => ?_))
  rcases rIt_of h with ⟨x2, rfl, h⟩ | ⟨b, rfl, h⟩
  rotate_left
  · exact h
  refine v_istore_n (pc := 5) (ls' := [(3, vI x2), (0, vA 0), (1, vI p1), (2, vI p2)]) d_Md_blame_5 rfl (by decide) rfl ?_
  refine v_aload_n (pc := 6) d_Md_blame_6 rfl (.tail _ (.head _)) ?_
  refine v_geti (pc := 7) (x := (w1 0 46)) d_Md_blame_7 fl_Md_456 cM_0.1 cM_0.2 (Or.inl rfl) rfl ?_
  refine v_ifeq (pc := 10) (tgt := 37) d_Md_blame_10 (by decide) (fun c => ?_) (fun c => ?_)
  · replace h := h.1 c
    refine v_aload_n (pc := 37) d_Md_blame_37 rfl (.tail _ (.head _)) ?_
    refine v_iload_n (pc := 38) d_Md_blame_38 rfl (.tail _ (.tail _ (.head _))) ?_
    refine v_puti (pc := 39) d_Md_blame_39 fp_Md_456 cM_0.1 cM_0.2 (by decide) rfl ?_
    refine v_aload_n (pc := 42) d_Md_blame_42 rfl (.tail _ (.head _)) ?_
    refine v_iload_n (pc := 43) d_Md_blame_43 rfl (.head _) ?_
    refine v_puti (pc := 44) d_Md_blame_44 fp_Md_459 cM_0.1 cM_0.2 (by decide) rfl ?_
    exact v_vret (pc := 47) d_Md_blame_47 rfl h
  · replace h := h.2 c
    refine v_iload_n (pc := 13) d_Md_blame_13 rfl (.head _) ?_
    refine v_aload_n (pc := 14) d_Md_blame_14 rfl (.tail _ (.head _)) ?_
    refine v_geti (pc := 15) (x := (w1 0 47)) d_Md_blame_15 fl_Md_459 cM_0.1 cM_0.2 (Or.inl rfl) rfl ?_
    refine v_icmplt (pc := 18) (tgt := 37) d_Md_blame_18 (by decide) (fun c => ?_) (fun c => ?_)
    · replace h := h.1 c
      refine v_aload_n (pc := 37) d_Md_blame_37 rfl (.tail _ (.head _)) ?_
      refine v_iload_n (pc := 38) d_Md_blame_38 rfl (.tail _ (.tail _ (.head _))) ?_
      refine v_puti (pc := 39) d_Md_blame_39 fp_Md_456 cM_0.1 cM_0.2 (by decide) rfl ?_
      refine v_aload_n (pc := 42) d_Md_blame_42 rfl (.tail _ (.head _)) ?_
      refine v_iload_n (pc := 43) d_Md_blame_43 rfl (.head _) ?_
      refine v_puti (pc := 44) d_Md_blame_44 fp_Md_459 cM_0.1 cM_0.2 (by decide) rfl ?_
      exact v_vret (pc := 47) d_Md_blame_47 rfl h
    · replace h := h.2 c
      refine v_iload_n (pc := 21) d_Md_blame_21 rfl (.head _) ?_
      refine v_aload_n (pc := 22) d_Md_blame_22 rfl (.tail _ (.head _)) ?_
      refine v_geti (pc := 23) (x := (w1 0 47)) d_Md_blame_23 fl_Md_459 cM_0.1 cM_0.2 (Or.inl rfl) rfl ?_
      refine v_icmpne (pc := 26) (tgt := 47) d_Md_blame_26 (by decide) (fun c => ?_) (fun c => ?_)
      · replace h := h.1 c
        exact v_vret (pc := 47) d_Md_blame_47 rfl h
      · replace h := h.2 c
        refine v_iload_n (pc := 29) d_Md_blame_29 rfl (.tail _ (.tail _ (.head _))) ?_
        refine v_aload_n (pc := 30) d_Md_blame_30 rfl (.tail _ (.head _)) ?_
        refine v_geti (pc := 31) (x := (w1 0 46)) d_Md_blame_31 fl_Md_456 cM_0.1 cM_0.2 (Or.inl rfl) rfl ?_
        refine v_icmpge (pc := 34) (tgt := 47) d_Md_blame_34 (by decide) (fun c => ?_) (fun c => ?_)
        · replace h := h.1 c
          exact v_vret (pc := 47) d_Md_blame_47 rfl h
        · replace h := h.2 c
          refine v_aload_n (pc := 37) d_Md_blame_37 rfl (.tail _ (.head _)) ?_
          refine v_iload_n (pc := 38) d_Md_blame_38 rfl (.tail _ (.tail _ (.head _))) ?_
          refine v_puti (pc := 39) d_Md_blame_39 fp_Md_456 cM_0.1 cM_0.2 (by decide) rfl ?_
          refine v_aload_n (pc := 42) d_Md_blame_42 rfl (.tail _ (.head _)) ?_
          refine v_iload_n (pc := 43) d_Md_blame_43 rfl (.head _) ?_
          refine v_puti (pc := 44) d_Md_blame_44 fp_Md_459 cM_0.1 cM_0.2 (by decide) rfl ?_
          exact v_vret (pc := 47) d_Md_blame_47 rfl h
theorem d_Md_sameName_0 : decode jMd_sameName.cc 0 = .ok (.aload_n 0, 1) := by decide +kernel
theorem d_Md_sameName_1 : decode jMd_sameName.cc 1 = .ok (.getfield 40, 3) := by decide +kernel
theorem d_Md_sameName_4 : decode jMd_sameName.cc 4 = .ok (.iload_n 1, 1) := by decide +kernel
theorem d_Md_sameName_5 : decode jMd_sameName.cc 5 = .ok (.iaload, 1) := by decide +kernel
theorem d_Md_sameName_6 : decode jMd_sameName.cc 6 = .ok (.aload_n 0, 1) := by decide +kernel
theorem d_Md_sameName_7 : decode jMd_sameName.cc 7 = .ok (.getfield 40, 3) := by decide +kernel
theorem d_Md_sameName_10 : decode jMd_sameName.cc 10 = .ok (.iload_n 2, 1) := by decide +kernel
theorem d_Md_sameName_11 : decode jMd_sameName.cc 11 = .ok (.iaload, 1) := by decide +kernel
theorem d_Md_sameName_12 : decode jMd_sameName.cc 12 = .ok (.if_icmp .ne 7, 3) := by decide +kernel
theorem d_Md_sameName_15 : decode jMd_sameName.cc 15 = .ok (.iconst 1, 1) := by decide +kernel
theorem d_Md_sameName_16 : decode jMd_sameName.cc 16 = .ok (.goto 4, 3) := by decide +kernel
theorem d_Md_sameName_19 : decode jMd_sameName.cc 19 = .ok (.iconst 0, 1) := by decide +kernel
theorem d_Md_sameName_20 : decode jMd_sameName.cc 20 = .ok (.istore_n 3, 1) := by decide +kernel
theorem d_Md_sameName_21 : decode jMd_sameName.cc 21 = .ok (.iconst 0, 1) := by decide +kernel
theorem d_Md_sameName_22 : decode jMd_sameName.cc 22 = .ok (.istore 4, 2) := by decide +kernel
theorem d_Md_sameName_24 : decode jMd_sameName.cc 24 = .ok (.iload 4, 2) := by decide +kernel
theorem d_Md_sameName_26 : decode jMd_sameName.cc 26 = .ok (.aload_n 0, 1) := by decide +kernel
theorem d_Md_sameName_27 : decode jMd_sameName.cc 27 = .ok (.getfield 40, 3) := by decide +kernel
theorem d_Md_sameName_30 : decode jMd_sameName.cc 30 = .ok (.iload_n 1, 1) := by decide +kernel
theorem d_Md_sameName_31 : decode jMd_sameName.cc 31 = .ok (.iaload, 1) := by decide +kernel
theorem d_Md_sameName_32 : decode jMd_sameName.cc 32 = .ok (.if_icmp .ge 50, 3) := by decide +kernel
theorem d_Md_sameName_35 : decode jMd_sameName.cc 35 = .ok (.iload_n 3, 1) := by decide +kernel
theorem d_Md_sameName_36 : decode jMd_sameName.cc 36 = .ok (.ifCond .eq 46, 3) := by decide +kernel
theorem d_Md_sameName_39 : decode jMd_sameName.cc 39 = .ok (.aload_n 0, 1) := by decide +kernel
theorem d_Md_sameName_40 : decode jMd_sameName.cc 40 = .ok (.getfield 30, 3) := by decide +kernel
theorem d_Md_sameName_43 : decode jMd_sameName.cc 43 = .ok (.aload_n 0, 1) := by decide +kernel
theorem d_Md_sameName_44 : decode jMd_sameName.cc 44 = .ok (.getfield 37, 3) := by decide +kernel
theorem d_Md_sameName_47 : decode jMd_sameName.cc 47 = .ok (.iload_n 1, 1) := by decide +kernel
theorem d_Md_sameName_48 : decode jMd_sameName.cc 48 = .ok (.iaload, 1) := by decide +kernel
theorem d_Md_sameName_49 : decode jMd_sameName.cc 49 = .ok (.iload 4, 2) := by decide +kernel
theorem d_Md_sameName_51 : decode jMd_sameName.cc 51 = .ok (.iadd, 1) := by decide +kernel
theorem d_Md_sameName_52 : decode jMd_sameName.cc 52 = .ok (.baload, 1) := by decide +kernel
theorem d_Md_sameName_53 : decode jMd_sameName.cc 53 = .ok (.aload_n 0, 1) := by decide +kernel
theorem d_Md_sameName_54 : decode jMd_sameName.cc 54 = .ok (.getfield 30, 3) := by decide +kernel
theorem d_Md_sameName_57 : decode jMd_sameName.cc 57 = .ok (.aload_n 0, 1) := by decide +kernel
theorem d_Md_sameName_58 : decode jMd_sameName.cc 58 = .ok (.getfield 37, 3) := by decide +kernel
theorem d_Md_sameName_61 : decode jMd_sameName.cc 61 = .ok (.iload_n 2, 1) := by decide +kernel
theorem d_Md_sameName_62 : decode jMd_sameName.cc 62 = .ok (.iaload, 1) := by decide +kernel
theorem d_Md_sameName_63 : decode jMd_sameName.cc 63 = .ok (.iload 4, 2) := by decide +kernel
theorem d_Md_sameName_65 : decode jMd_sameName.cc 65 = .ok (.iadd, 1) := by decide +kernel
theorem d_Md_sameName_66 : decode jMd_sameName.cc 66 = .ok (.baload, 1) := by decide +kernel
theorem d_Md_sameName_67 : decode jMd_sameName.cc 67 = .ok (.if_icmp .ne 7, 3) := by decide +kernel
theorem d_Md_sameName_70 : decode jMd_sameName.cc 70 = .ok (.iconst 1, 1) := by decide +kernel
theorem d_Md_sameName_71 : decode jMd_sameName.cc 71 = .ok (.goto 4, 3) := by decide +kernel
theorem d_Md_sameName_74 : decode jMd_sameName.cc 74 = .ok (.iconst 0, 1) := by decide +kernel
theorem d_Md_sameName_75 : decode jMd_sameName.cc 75 = .ok (.istore_n 3, 1) := by decide +kernel
theorem d_Md_sameName_76 : decode jMd_sameName.cc 76 = .ok (.iinc 4 1, 3) := by decide +kernel
theorem d_Md_sameName_79 : decode jMd_sameName.cc 79 = .ok (.goto (-55), 3) := by decide +kernel
theorem d_Md_sameName_82 : decode jMd_sameName.cc 82 = .ok (.iload_n 3, 1) := by decide +kernel
theorem d_Md_sameName_83 : decode jMd_sameName.cc 83 = .ok (.ireturn, 1) := by decide +kernel
set_option maxHeartbeats 4000000 in
theorem s_Md_sameName {g : Mg} {d : Nat} {K : Ou → Wd → Prop} {w : Wd} {p1 : Int} {p2 : Int} (h : (0 ≤ p1 ∧ p1 < 4022) ∧ ((0 ≤ p2 ∧ p2 < 4022) ∧ ((¬ (w 6 p1.toNat) = (w 6 p2.toNat) → (V g LM jMd_sameName d K 24 [(0, vA 0), (1, vI p1), (2, vI p2), (3, vI 0), (4, vI 0)] [] w)) ∧ ((w 6 p1.toNat) = (w 6 p2.toNat) → (V g LM jMd_sameName d K 24 [(0, vA 0), (1, vI p1), (2, vI p2), (3, vI 1), (4, vI 0)] [] w))))) : V g LM jMd_sameName d K 0 [(0, vA 0), (1, vI p1), (2, vI p2)] [] w := by
  refine v_aload_n (pc := 0) d_Md_sameName_0 rfl (.head _) ?_
  refine v_getr (C := "") (pc := 1) (r := 6) d_Md_sameName_1 fl_Md_40 cM_0.1 cM_0.2 (Or.inr ⟨_, rfl⟩) rM_0_8 ?_
  refine v_iload_n (pc := 4) d_Md_sameName_4 rfl (.tail _ (.head _)) ?_
  refine v_iald (pc := 5) (x := (w 6 p1.toNat)) d_Md_sameName_5 cM_6.1 cM_6.2 rfl h.1 ?_
  replace h := h.2
  refine v_aload_n (pc := 6) d_Md_sameName_6 rfl (.head _) ?_
  refine v_getr (C := "") (pc := 7) (r := 6) d_Md_sameName_7 fl_Md_40 cM_0.1 cM_0.2 (Or.inr ⟨_, rfl⟩) rM_0_8 ?_
  refine v_iload_n (pc := 10) d_Md_sameName_10 rfl (.tail _ (.tail _ (.head _))) ?_
  refine v_iald (pc := 11) (x := (w 6 p2.toNat)) d_Md_sameName_11 cM_6.1 cM_6.2 rfl h.1 ?_
  replace h := h.2
  refine v_icmpne (pc := 12) (tgt := 19) d_Md_sameName_12 (by decide) (fun c => ?_) (fun c => ?_)
  · replace h := h.1 c
    refine v_iconst (pc := 19) d_Md_sameName_19 (by decide) ?_
    refine v_istore_n (pc := 20) (ls' := [(3, vI 0), (0, vA 0), (1, vI p1), (2, vI p2)]) d_Md_sameName_20 rfl (by decide) rfl ?_
    refine v_iconst (pc := 21) d_Md_sameName_21 (by decide) ?_
    refine v_istore (pc := 22) (ls' := [(4, vI 0), (3, vI 0), (0, vA 0), (1, vI p1), (2, vI p2)]) d_Md_sameName_22 (by decide) rfl ?_
    exact v_sub (List.forall_mem_cons.mpr ⟨(.tail _ (.tail _ (.head _))), (List.forall_mem_cons.mpr ⟨(.tail _ (.tail _ (.tail _ (.head _)))), (List.forall_mem_cons.mpr ⟨(.tail _ (.tail _ (.tail _ (.tail _ (.head _))))), (List.forall_mem_cons.mpr ⟨(.tail _ (.head _)), (List.forall_mem_cons.mpr ⟨(.head _), (fun _ z => absurd z List.not_mem_nil)⟩)⟩)⟩)⟩)⟩) h
  · replace h := h.2 c
    refine v_iconst (pc := 15) d_Md_sameName_15 (by decide) ?_
    refine v_goto (pc := 16) (tgt := 20) d_Md_sameName_16 (by decide) ?_
    refine v_istore_n (pc := 20) (ls' := [(3, vI 1), (0, vA 0), (1, vI p1), (2, vI p2)]) d_Md_sameName_20 rfl (by decide) rfl ?_
    refine v_iconst (pc := 21) d_Md_sameName_21 (by decide) ?_
    refine v_istore (pc := 22) (ls' := [(4, vI 0), (3, vI 1), (0, vA 0), (1, vI p1), (2, vI p2)]) d_Md_sameName_22 (by decide) rfl ?_
    exact v_sub (List.forall_mem_cons.mpr ⟨(.tail _ (.tail _ (.head _))), (List.forall_mem_cons.mpr ⟨(.tail _ (.tail _ (.tail _ (.head _)))), (List.forall_mem_cons.mpr ⟨(.tail _ (.tail _ (.tail _ (.tail _ (.head _))))), (List.forall_mem_cons.mpr ⟨(.tail _ (.head _)), (List.forall_mem_cons.mpr ⟨(.head _), (fun _ z => absurd z List.not_mem_nil)⟩)⟩)⟩)⟩)⟩) h
set_option maxHeartbeats 4000000 in
theorem s_Md_sameName_24 {g : Mg} {d : Nat} {K : Ou → Wd → Prop} {w : Wd} {x1_ : Int} {x2_ : Int} {x3_ : Int} {x4_ : Int} (h : (0 ≤ x1_ ∧ x1_ < 4022) ∧ (((w 6 x1_.toNat) ≤ x4_ → ((x3_ = 0 ∨ x3_ = 1) ∧ K (.inl (some (vI x3_))) w)) ∧ (¬ (w 6 x1_.toNat) ≤ x4_ → ((x3_ = 0 → ((x3_ = 0 ∨ x3_ = 1) ∧ K (.inl (some (vI x3_))) w)) ∧ (¬ x3_ = 0 → ((0 ≤ x1_ ∧ x1_ < 4022) ∧ ((0 ≤ (wr ((w 5 x1_.toNat) + x4_)) ∧ (wr ((w 5 x1_.toNat) + x4_)) < 4020) ∧ ((0 ≤ x2_ ∧ x2_ < 4022) ∧ ((0 ≤ (wr ((w 5 x2_.toNat) + x4_)) ∧ (wr ((w 5 x2_.toNat) + x4_)) < 4020) ∧ ((¬ (w 3 ((wr ((w 5 x1_.toNat) + x4_)).toNat)) = (w 3 ((wr ((w 5 x2_.toNat) + x4_)).toNat)) → (V g LM jMd_sameName d K 24 [(0, vA 0), (1, vI x1_), (2, vI x2_), (3, vI 0), (4, vI (wr (x4_ + 1)))] [] w)) ∧ ((w 3 ((wr ((w 5 x1_.toNat) + x4_)).toNat)) = (w 3 ((wr ((w 5 x2_.toNat) + x4_)).toNat)) → (V g LM jMd_sameName d K 24 [(0, vA 0), (1, vI x1_), (2, vI x2_), (3, vI 1), (4, vI (wr (x4_ + 1)))] [] w)))))))))))) : V g LM jMd_sameName d K 24 [(0, vA 0), (1, vI x1_), (2, vI x2_), (3, vI x3_), (4, vI x4_)] [] w := by
  refine v_iload (pc := 24) d_Md_sameName_24 (.tail _ (.tail _ (.tail _ (.tail _ (.head _))))) ?_
  refine v_aload_n (pc := 26) d_Md_sameName_26 rfl (.head _) ?_
  refine v_getr (C := "") (pc := 27) (r := 6) d_Md_sameName_27 fl_Md_40 cM_0.1 cM_0.2 (Or.inr ⟨_, rfl⟩) rM_0_8 ?_
  refine v_iload_n (pc := 30) d_Md_sameName_30 rfl (.tail _ (.head _)) ?_
  refine v_iald (pc := 31) (x := (w 6 x1_.toNat)) d_Md_sameName_31 cM_6.1 cM_6.2 rfl h.1 ?_
  replace h := h.2
  refine v_icmpge (pc := 32) (tgt := 82) d_Md_sameName_32 (by decide) (fun c => ?_) (fun c => ?_)
  · replace h := h.1 c
    refine v_iload_n (pc := 82) d_Md_sameName_82 rfl (.tail _ (.tail _ (.tail _ (.head _)))) ?_
    exact v_zret (pc := 83) d_Md_sameName_83 rfl h.1 h.2
  · replace h := h.2 c
    refine v_iload_n (pc := 35) d_Md_sameName_35 rfl (.tail _ (.tail _ (.tail _ (.head _)))) ?_
    refine v_ifeq (pc := 36) (tgt := 82) d_Md_sameName_36 (by decide) (fun c => ?_) (fun c => ?_)
    · replace h := h.1 c
      refine v_iload_n (pc := 82) d_Md_sameName_82 rfl (.tail _ (.tail _ (.tail _ (.head _)))) ?_
      exact v_zret (pc := 83) d_Md_sameName_83 rfl h.1 h.2
    · replace h := h.2 c
      refine v_aload_n (pc := 39) d_Md_sameName_39 rfl (.head _) ?_
      refine v_getr (C := "") (pc := 40) (r := 3) d_Md_sameName_40 fl_Md_30 cM_0.1 cM_0.2 (Or.inr ⟨_, rfl⟩) rM_0_4 ?_
      refine v_aload_n (pc := 43) d_Md_sameName_43 rfl (.head _) ?_
      refine v_getr (C := "") (pc := 44) (r := 5) d_Md_sameName_44 fl_Md_37 cM_0.1 cM_0.2 (Or.inr ⟨_, rfl⟩) rM_0_7 ?_
      refine v_iload_n (pc := 47) d_Md_sameName_47 rfl (.tail _ (.head _)) ?_
      refine v_iald (pc := 48) (x := (w 5 x1_.toNat)) d_Md_sameName_48 cM_5.1 cM_5.2 rfl h.1 ?_
      replace h := h.2
      refine v_iload (pc := 49) d_Md_sameName_49 (.tail _ (.tail _ (.tail _ (.tail _ (.head _))))) ?_
      refine v_iadd (pc := 51) d_Md_sameName_51 ?_
      refine v_bald (pc := 52) (x := (w 3 ((wr ((w 5 x1_.toNat) + x4_)).toNat))) d_Md_sameName_52 cM_3.1 cM_3.2 rfl h.1 ?_
      replace h := h.2
      refine v_aload_n (pc := 53) d_Md_sameName_53 rfl (.head _) ?_
      refine v_getr (C := "") (pc := 54) (r := 3) d_Md_sameName_54 fl_Md_30 cM_0.1 cM_0.2 (Or.inr ⟨_, rfl⟩) rM_0_4 ?_
      refine v_aload_n (pc := 57) d_Md_sameName_57 rfl (.head _) ?_
      refine v_getr (C := "") (pc := 58) (r := 5) d_Md_sameName_58 fl_Md_37 cM_0.1 cM_0.2 (Or.inr ⟨_, rfl⟩) rM_0_7 ?_
      refine v_iload_n (pc := 61) d_Md_sameName_61 rfl (.tail _ (.tail _ (.head _))) ?_
      refine v_iald (pc := 62) (x := (w 5 x2_.toNat)) d_Md_sameName_62 cM_5.1 cM_5.2 rfl h.1 ?_
      replace h := h.2
      refine v_iload (pc := 63) d_Md_sameName_63 (.tail _ (.tail _ (.tail _ (.tail _ (.head _))))) ?_
      refine v_iadd (pc := 65) d_Md_sameName_65 ?_
      refine v_bald (pc := 66) (x := (w 3 ((wr ((w 5 x2_.toNat) + x4_)).toNat))) d_Md_sameName_66 cM_3.1 cM_3.2 rfl h.1 ?_
      replace h := h.2
      refine v_icmpne (pc := 67) (tgt := 74) d_Md_sameName_67 (by decide) (fun c => ?_) (fun c => ?_)
      · replace h := h.1 c
        refine v_iconst (pc := 74) d_Md_sameName_74 (by decide) ?_
        refine v_istore_n (pc := 75) (ls' := [(3, vI 0), (0, vA 0), (1, vI x1_), (2, vI x2_), (4, vI x4_)]) d_Md_sameName_75 rfl (by decide) rfl ?_
        refine v_iinc (pc := 76) (ls' := [(4, vI (wr (x4_ + 1))), (3, vI 0), (0, vA 0), (1, vI x1_), (2, vI x2_)]) d_Md_sameName_76 (.tail _ (.tail _ (.tail _ (.tail _ (.head _))))) (by decide) rfl ?_
        refine v_goto (pc := 79) (tgt := 24) d_Md_sameName_79 (by decide) ?_
        exact v_sub (List.forall_mem_cons.mpr ⟨(.tail _ (.tail _ (.head _))), (List.forall_mem_cons.mpr ⟨(.tail _ (.tail _ (.tail _ (.head _)))), (List.forall_mem_cons.mpr ⟨(.tail _ (.tail _ (.tail _ (.tail _ (.head _))))), (List.forall_mem_cons.mpr ⟨(.tail _ (.head _)), (List.forall_mem_cons.mpr ⟨(.head _), (fun _ z => absurd z List.not_mem_nil)⟩)⟩)⟩)⟩)⟩) h
      · replace h := h.2 c
        refine v_iconst (pc := 70) d_Md_sameName_70 (by decide) ?_
        refine v_goto (pc := 71) (tgt := 75) d_Md_sameName_71 (by decide) ?_
        refine v_istore_n (pc := 75) (ls' := [(3, vI 1), (0, vA 0), (1, vI x1_), (2, vI x2_), (4, vI x4_)]) d_Md_sameName_75 rfl (by decide) rfl ?_
        refine v_iinc (pc := 76) (ls' := [(4, vI (wr (x4_ + 1))), (3, vI 1), (0, vA 0), (1, vI x1_), (2, vI x2_)]) d_Md_sameName_76 (.tail _ (.tail _ (.tail _ (.tail _ (.head _))))) (by decide) rfl ?_
        refine v_goto (pc := 79) (tgt := 24) d_Md_sameName_79 (by decide) ?_
        exact v_sub (List.forall_mem_cons.mpr ⟨(.tail _ (.tail _ (.head _))), (List.forall_mem_cons.mpr ⟨(.tail _ (.tail _ (.tail _ (.head _)))), (List.forall_mem_cons.mpr ⟨(.tail _ (.tail _ (.tail _ (.tail _ (.head _))))), (List.forall_mem_cons.mpr ⟨(.tail _ (.head _)), (List.forall_mem_cons.mpr ⟨(.head _), (fun _ z => absurd z List.not_mem_nil)⟩)⟩)⟩)⟩)⟩) h
theorem d_Md_find_0 : decode jMd_find.cc 0 = .ok (.iconst 0, 1) := by decide +kernel
theorem d_Md_find_1 : decode jMd_find.cc 1 = .ok (.istore_n 2, 1) := by decide +kernel
theorem d_Md_find_2 : decode jMd_find.cc 2 = .ok (.iload_n 2, 1) := by decide +kernel
theorem d_Md_find_3 : decode jMd_find.cc 3 = .ok (.aload_n 0, 1) := by decide +kernel
theorem d_Md_find_4 : decode jMd_find.cc 4 = .ok (.getfield 444, 3) := by decide +kernel
theorem d_Md_find_7 : decode jMd_find.cc 7 = .ok (.if_icmp .ge 63, 3) := by decide +kernel
theorem d_Md_find_10 : decode jMd_find.cc 10 = .ok (.aload_n 0, 1) := by decide +kernel
theorem d_Md_find_11 : decode jMd_find.cc 11 = .ok (.getfield 246, 3) := by decide +kernel
theorem d_Md_find_14 : decode jMd_find.cc 14 = .ok (.iload_n 2, 1) := by decide +kernel
theorem d_Md_find_15 : decode jMd_find.cc 15 = .ok (.baload, 1) := by decide +kernel
theorem d_Md_find_16 : decode jMd_find.cc 16 = .ok (.ifCond .eq 48, 3) := by decide +kernel
theorem d_Md_find_19 : decode jMd_find.cc 19 = .ok (.aload_n 0, 1) := by decide +kernel
theorem d_Md_find_20 : decode jMd_find.cc 20 = .ok (.aload_n 0, 1) := by decide +kernel
theorem d_Md_find_21 : decode jMd_find.cc 21 = .ok (.getfield 170, 3) := by decide +kernel
theorem d_Md_find_24 : decode jMd_find.cc 24 = .ok (.iload_n 2, 1) := by decide +kernel
theorem d_Md_find_25 : decode jMd_find.cc 25 = .ok (.iaload, 1) := by decide +kernel
theorem d_Md_find_26 : decode jMd_find.cc 26 = .ok (.iload_n 1, 1) := by decide +kernel
theorem d_Md_find_27 : decode jMd_find.cc 27 = .ok (.invokevirtual 462, 3) := by decide +kernel
theorem d_Md_find_30 : decode jMd_find.cc 30 = .ok (.ifCond .eq 34, 3) := by decide +kernel
theorem d_Md_find_33 : decode jMd_find.cc 33 = .ok (.aload_n 0, 1) := by decide +kernel
theorem d_Md_find_34 : decode jMd_find.cc 34 = .ok (.aload_n 0, 1) := by decide +kernel
theorem d_Md_find_35 : decode jMd_find.cc 35 = .ok (.getfield 167, 3) := by decide +kernel
theorem d_Md_find_38 : decode jMd_find.cc 38 = .ok (.iload_n 2, 1) := by decide +kernel
theorem d_Md_find_39 : decode jMd_find.cc 39 = .ok (.iaload, 1) := by decide +kernel
theorem d_Md_find_40 : decode jMd_find.cc 40 = .ok (.putfield 466, 3) := by decide +kernel
theorem d_Md_find_43 : decode jMd_find.cc 43 = .ok (.aload_n 0, 1) := by decide +kernel
theorem d_Md_find_44 : decode jMd_find.cc 44 = .ok (.aload_n 0, 1) := by decide +kernel
theorem d_Md_find_45 : decode jMd_find.cc 45 = .ok (.iload_n 2, 1) := by decide +kernel
theorem d_Md_find_46 : decode jMd_find.cc 46 = .ok (.invokevirtual 469, 3) := by decide +kernel
theorem d_Md_find_49 : decode jMd_find.cc 49 = .ok (.putfield 472, 3) := by decide +kernel
theorem d_Md_find_52 : decode jMd_find.cc 52 = .ok (.aload_n 0, 1) := by decide +kernel
theorem d_Md_find_53 : decode jMd_find.cc 53 = .ok (.aload_n 0, 1) := by decide +kernel
theorem d_Md_find_54 : decode jMd_find.cc 54 = .ok (.getfield 173, 3) := by decide +kernel
theorem d_Md_find_57 : decode jMd_find.cc 57 = .ok (.iload_n 2, 1) := by decide +kernel
theorem d_Md_find_58 : decode jMd_find.cc 58 = .ok (.iaload, 1) := by decide +kernel
theorem d_Md_find_59 : decode jMd_find.cc 59 = .ok (.putfield 475, 3) := by decide +kernel
theorem d_Md_find_62 : decode jMd_find.cc 62 = .ok (.iconst 1, 1) := by decide +kernel
theorem d_Md_find_63 : decode jMd_find.cc 63 = .ok (.ireturn, 1) := by decide +kernel
theorem d_Md_find_64 : decode jMd_find.cc 64 = .ok (.iinc 2 1, 3) := by decide +kernel
theorem d_Md_find_67 : decode jMd_find.cc 67 = .ok (.goto (-65), 3) := by decide +kernel
theorem d_Md_find_70 : decode jMd_find.cc 70 = .ok (.iconst 0, 1) := by decide +kernel
theorem d_Md_find_71 : decode jMd_find.cc 71 = .ok (.istore_n 2, 1) := by decide +kernel
theorem d_Md_find_72 : decode jMd_find.cc 72 = .ok (.iload_n 2, 1) := by decide +kernel
theorem d_Md_find_73 : decode jMd_find.cc 73 = .ok (.aload_n 0, 1) := by decide +kernel
theorem d_Md_find_74 : decode jMd_find.cc 74 = .ok (.getfield 478, 3) := by decide +kernel
theorem d_Md_find_77 : decode jMd_find.cc 77 = .ok (.if_icmp .ge 45, 3) := by decide +kernel
theorem d_Md_find_80 : decode jMd_find.cc 80 = .ok (.aload_n 0, 1) := by decide +kernel
theorem d_Md_find_81 : decode jMd_find.cc 81 = .ok (.aload_n 0, 1) := by decide +kernel
theorem d_Md_find_82 : decode jMd_find.cc 82 = .ok (.getfield 240, 3) := by decide +kernel
theorem d_Md_find_85 : decode jMd_find.cc 85 = .ok (.iload_n 2, 1) := by decide +kernel
theorem d_Md_find_86 : decode jMd_find.cc 86 = .ok (.iaload, 1) := by decide +kernel
theorem d_Md_find_87 : decode jMd_find.cc 87 = .ok (.iload_n 1, 1) := by decide +kernel
theorem d_Md_find_88 : decode jMd_find.cc 88 = .ok (.invokevirtual 462, 3) := by decide +kernel
theorem d_Md_find_91 : decode jMd_find.cc 91 = .ok (.ifCond .eq 25, 3) := by decide +kernel
theorem d_Md_find_94 : decode jMd_find.cc 94 = .ok (.aload_n 0, 1) := by decide +kernel
theorem d_Md_find_95 : decode jMd_find.cc 95 = .ok (.iconst 4, 1) := by decide +kernel
theorem d_Md_find_96 : decode jMd_find.cc 96 = .ok (.putfield 466, 3) := by decide +kernel
theorem d_Md_find_99 : decode jMd_find.cc 99 = .ok (.aload_n 0, 1) := by decide +kernel
theorem d_Md_find_100 : decode jMd_find.cc 100 = .ok (.iload_n 2, 1) := by decide +kernel
theorem d_Md_find_101 : decode jMd_find.cc 101 = .ok (.putfield 472, 3) := by decide +kernel
theorem d_Md_find_104 : decode jMd_find.cc 104 = .ok (.aload_n 0, 1) := by decide +kernel
theorem d_Md_find_105 : decode jMd_find.cc 105 = .ok (.aload_n 0, 1) := by decide +kernel
theorem d_Md_find_106 : decode jMd_find.cc 106 = .ok (.getfield 243, 3) := by decide +kernel
theorem d_Md_find_109 : decode jMd_find.cc 109 = .ok (.iload_n 2, 1) := by decide +kernel
theorem d_Md_find_110 : decode jMd_find.cc 110 = .ok (.iaload, 1) := by decide +kernel
theorem d_Md_find_111 : decode jMd_find.cc 111 = .ok (.putfield 475, 3) := by decide +kernel
theorem d_Md_find_114 : decode jMd_find.cc 114 = .ok (.iconst 1, 1) := by decide +kernel
theorem d_Md_find_115 : decode jMd_find.cc 115 = .ok (.ireturn, 1) := by decide +kernel
theorem d_Md_find_116 : decode jMd_find.cc 116 = .ok (.iinc 2 1, 3) := by decide +kernel
theorem d_Md_find_119 : decode jMd_find.cc 119 = .ok (.goto (-47), 3) := by decide +kernel
theorem d_Md_find_122 : decode jMd_find.cc 122 = .ok (.iconst 0, 1) := by decide +kernel
theorem d_Md_find_123 : decode jMd_find.cc 123 = .ok (.ireturn, 1) := by decide +kernel
set_option maxHeartbeats 4000000 in
theorem s_Md_find {g : Mg} {d : Nat} {K : Ou → Wd → Prop} {w : Wd} {p1 : Int} (h : V g LM jMd_find (d + 1) K 2 [(0, vA 0), (1, vI p1), (2, vI 0)] [] w) : V g LM jMd_find (d + 1) K 0 [(0, vA 0), (1, vI p1)] [] w := by
  refine v_iconst (pc := 0) d_Md_find_0 (by decide) ?_
  refine v_istore_n (pc := 1) (ls' := [(2, vI 0), (0, vA 0), (1, vI p1)]) d_Md_find_1 rfl (by decide) rfl ?_
  exact v_sub (List.forall_mem_cons.mpr ⟨(.tail _ (.head _)), (List.forall_mem_cons.mpr ⟨(.tail _ (.tail _ (.head _))), (List.forall_mem_cons.mpr ⟨(.head _), (fun _ z => absurd z List.not_mem_nil)⟩)⟩)⟩) h
set_option maxHeartbeats 4000000 in
theorem s_Md_find_2 {g : Mg} {d : Nat} {K : Ou → Wd → Prop} {w : Wd} {x1_ : Int} {x2_ : Int} (h : ((w 0 20) ≤ x2_ → (V g LM jMd_find (d + 1) K 72 [(0, vA 0), (1, vI x1_), (2, vI 0)] [] w)) ∧ (¬ (w 0 20) ≤ x2_ → ((0 ≤ x2_ ∧ x2_ < 30) ∧ (((w 36 x2_.toNat) = 0 → (V g LM jMd_find (d + 1) K 2 [(0, vA 0), (1, vI x1_), (2, vI (wr (x2_ + 1)))] [] w)) ∧ (¬ (w 36 x2_.toNat) = 0 → ((0 ≤ x2_ ∧ x2_ < 30) ∧ (Cal g LM jMd_sameName d [vA 0, vI (w 11 x2_.toNat), vI x1_] w (fun o w1 => rIt o (fun b => K (.inr b) w1) (fun x2 => (x2 = 0 → (V g LM jMd_find (d + 1) K 2 [(0, vA 0), (1, vI x1_), (2, vI (wr (x2_ + 1)))] [] w1)) ∧ (¬ x2 = 0 → ((0 ≤ x2_ ∧ x2_ < 30) ∧ (Cal g LM jMd_numberOf d [vA 0, vI x2_] (up w1 0 51 (w1 10 x2_.toNat)) (fun o w3 => rIt o (fun b => K (.inr b) w3) (fun x4 => (0 ≤ x2_ ∧ x2_ < 30) ∧ (K (.inl (some (vI 1))) (up (up w3 0 52 x4) 0 53 (w3 12 x2_.toNat))))))))))))))))) : V g LM jMd_find (d + 1) K 2 [(0, vA 0), (1, vI x1_), (2, vI x2_)] [] w := by
  refine v_iload_n (pc := 2) d_Md_find_2 rfl (.tail _ (.tail _ (.head _))) ?_
  refine v_aload_n (pc := 3) d_Md_find_3 rfl (.head _) ?_
  refine v_geti (pc := 4) (x := (w 0 20)) d_Md_find_4 fl_Md_444 cM_0.1 cM_0.2 (Or.inl rfl) rfl ?_
  refine v_icmpge (pc := 7) (tgt := 70) d_Md_find_7 (by decide) (fun c => ?_) (fun c => ?_)
  · replace h := h.1 c
    refine v_iconst (pc := 70) d_Md_find_70 (by decide) ?_
    refine v_istore_n (pc := 71) (ls' := [(2, vI 0), (0, vA 0), (1, vI x1_)]) d_Md_find_71 rfl (by decide) rfl ?_
    exact v_sub (List.forall_mem_cons.mpr ⟨(.tail _ (.head _)), (List.forall_mem_cons.mpr ⟨(.tail _ (.tail _ (.head _))), (List.forall_mem_cons.mpr ⟨(.head _), (fun _ z => absurd z List.not_mem_nil)⟩)⟩)⟩) h
  · replace h := h.2 c
    refine v_aload_n (pc := 10) d_Md_find_10 rfl (.head _) ?_
    refine v_getr (C := "") (pc := 11) (r := 36) d_Md_find_11 fl_Md_246 cM_0.1 cM_0.2 (Or.inr ⟨_, rfl⟩) rM_0_54 ?_
    refine v_iload_n (pc := 14) d_Md_find_14 rfl (.tail _ (.tail _ (.head _))) ?_
    refine v_zald (pc := 15) (x := (w 36 x2_.toNat)) d_Md_find_15 cM_36.1 cM_36.2 rfl h.1 ?_
    replace h := h.2
    refine v_ifeq (pc := 16) (tgt := 64) d_Md_find_16 (by decide) (fun c => ?_) (fun c => ?_)
    · replace h := h.1 c
      refine v_iinc (pc := 64) (ls' := [(2, vI (wr (x2_ + 1))), (0, vA 0), (1, vI x1_)]) d_Md_find_64 (.tail _ (.tail _ (.head _))) (by decide) rfl ?_
      refine v_goto (pc := 67) (tgt := 2) d_Md_find_67 (by decide) ?_
      exact v_sub (List.forall_mem_cons.mpr ⟨(.tail _ (.head _)), (List.forall_mem_cons.mpr ⟨(.tail _ (.tail _ (.head _))), (List.forall_mem_cons.mpr ⟨(.head _), (fun _ z => absurd z List.not_mem_nil)⟩)⟩)⟩) h
    · replace h := h.2 c
      refine v_aload_n (pc := 19) d_Md_find_19 rfl (.head _) ?_
      refine v_aload_n (pc := 20) d_Md_find_20 rfl (.head _) ?_
      refine v_getr (C := "") (pc := 21) (r := 11) d_Md_find_21 fl_Md_170 cM_0.1 cM_0.2 (Or.inr ⟨_, rfl⟩) rM_0_15 ?_
      refine v_iload_n (pc := 24) d_Md_find_24 rfl (.tail _ (.tail _ (.head _))) ?_
      refine v_iald (pc := 25) (x := (w 11 x2_.toNat)) d_Md_find_25 cM_11.1 cM_11.2 rfl h.1 ?_
      replace h := h.2
      refine v_iload_n (pc := 26) d_Md_find_26 rfl (.tail _ (.head _)) ?_
      refine v_callV (pc := 27) (J' := jMd_sameName) (d' := d) (o := 0) (ci := 13) (N := 93) (T := cT13) (As := [vI (w 11 x2_.toNat), vI x1_]) d_Md_find_27 ml_Md_462 cM_0.1 cM_0.2 (by decide) rfl rfl (Nat.le_of_ble_eq_true rfl) (Nat.le_refl _) rfl (Cal.weak h (fun o w1 h => ?_))
      rcases rIt_of h with ⟨x2, rfl, h⟩ | ⟨b, rfl, h⟩
      rotate_left
      · exact h
      refine v_ifeq (pc := 30) (tgt := 64) d_Md_find_30 (by decide) (fun c => ?_) (fun c => ?_)
      · replace h := h.1 c
        refine v_iinc (pc := 64) (ls' := [(2, vI (wr (x2_ + 1))), (0, vA 0), (1, vI x1_)]) d_Md_find_64 (.tail _ (.tail _ (.head _))) (by decide) rfl ?_
        refine v_goto (pc := 67) (tgt := 2) d_Md_find_67 (by decide) ?_
        exact v_sub (List.forall_mem_cons.mpr ⟨(.tail _ (.head _)), (List.forall_mem_cons.mpr ⟨(.tail _ (.tail _ (.head _))), (List.forall_mem_cons.mpr ⟨(.head _), (fun _ z => absurd z List.not_mem_nil)⟩)⟩)⟩) h
      · replace h := h.2 c
        refine v_aload_n (pc := 33) d_Md_find_33 rfl (.head _) ?_
        refine v_aload_n (pc := 34) d_Md_find_34 rfl (.head _) ?_
        refine v_getr (C := "") (pc := 35) (r := 10) d_Md_find_35 fl_Md_167 cM_0.1 cM_0.2 (Or.inr ⟨_, rfl⟩) rM_0_14 ?_
        refine v_iload_n (pc := 38) d_Md_find_38 rfl (.tail _ (.tail _ (.head _))) ?_
        refine v_iald (pc := 39) (x := (w1 10 x2_.toNat)) d_Md_find_39 cM_10.1 cM_10.2 rfl h.1 ?_
        replace h := h.2
        refine v_puti (pc := 40) d_Md_find_40 fp_Md_466 cM_0.1 cM_0.2 (by decide) rfl ?_
        refine v_aload_n (pc := 43) d_Md_find_43 rfl (.head _) ?_
        refine v_aload_n (pc := 44) d_Md_find_44 rfl (.head _) ?_
        refine v_iload_n (pc := 45) d_Md_find_45 rfl (.tail _ (.tail _ (.head _))) ?_
        refine v_callV (pc := 46) (J' := jMd_numberOf) (d' := d) (o := 0) (ci := 13) (N := 93) (T := cT13) (As := [vI x2_]) d_Md_find_46 ml_Md_469 cM_0.1 cM_0.2 (by decide) rfl rfl (Nat.le_of_ble_eq_true rfl) (Nat.le_refl _) rfl (Cal.weak h (fun o w3 h => ?_))
        rcases rIt_of h with ⟨x4, rfl, h⟩ | ⟨b, rfl, h⟩
        rotate_left
        · exact h
        refine v_puti (pc := 49) d_Md_find_49 fp_Md_472 cM_0.1 cM_0.2 (by decide) rfl ?_
        refine v_aload_n (pc := 52) d_Md_find_52 rfl (.head _) ?_
        refine v_aload_n (pc := 53) d_Md_find_53 rfl (.head _) ?_
        refine v_getr (C := "") (pc := 54) (r := 12) d_Md_find_54 fl_Md_173 cM_0.1 cM_0.2 (Or.inr ⟨_, rfl⟩) rM_0_16 ?_
        refine v_iload_n (pc := 57) d_Md_find_57 rfl (.tail _ (.tail _ (.head _))) ?_
        refine v_iald (pc := 58) (x := (w3 12 x2_.toNat)) d_Md_find_58 cM_12.1 cM_12.2 rfl h.1 ?_
        replace h := h.2
        refine v_puti (pc := 59) d_Md_find_59 fp_Md_475 cM_0.1 cM_0.2 (by decide) rfl ?_
        refine v_iconst (pc := 62) d_Md_find_62 (by decide) ?_
        exact v_zret (pc := 63) d_Md_find_63 rfl (by decide) h
set_option maxHeartbeats 4000000 in
theorem s_Md_find_72 {g : Mg} {d : Nat} {K : Ou → Wd → Prop} {w : Wd} {x1_ : Int} {x2_ : Int} (h : ((w 0 50) ≤ x2_ → (K (.inl (some (vI 0))) w)) ∧ (¬ (w 0 50) ≤ x2_ → ((0 ≤ x2_ ∧ x2_ < 130) ∧ (Cal g LM jMd_sameName d [vA 0, vI (w 34 x2_.toNat), vI x1_] w (fun o w1 => rIt o (fun b => K (.inr b) w1) (fun x2 => (x2 = 0 → (V g LM jMd_find (d + 1) K 72 [(0, vA 0), (1, vI x1_), (2, vI (wr (x2_ + 1)))] [] w1)) ∧ (¬ x2 = 0 → ((0 ≤ x2_ ∧ x2_ < 130) ∧ (K (.inl (some (vI 1))) (up (up (up w1 0 51 4) 0 52 x2_) 0 53 (w1 35 x2_.toNat))))))))))) : V g LM jMd_find (d + 1) K 72 [(0, vA 0), (1, vI x1_), (2, vI x2_)] [] w := by
  refine v_iload_n (pc := 72) d_Md_find_72 rfl (.tail _ (.tail _ (.head _))) ?_
  refine v_aload_n (pc := 73) d_Md_find_73 rfl (.head _) ?_
  refine v_geti (pc := 74) (x := (w 0 50)) d_Md_find_74 fl_Md_478 cM_0.1 cM_0.2 (Or.inl rfl) rfl ?_
  refine v_icmpge (pc := 77) (tgt := 122) d_Md_find_77 (by decide) (fun c => ?_) (fun c => ?_)
  · replace h := h.1 c
    refine v_iconst (pc := 122) d_Md_find_122 (by decide) ?_
    exact v_zret (pc := 123) d_Md_find_123 rfl (by decide) h
  · replace h := h.2 c
    refine v_aload_n (pc := 80) d_Md_find_80 rfl (.head _) ?_
    refine v_aload_n (pc := 81) d_Md_find_81 rfl (.head _) ?_
    refine v_getr (C := "") (pc := 82) (r := 34) d_Md_find_82 fl_Md_240 cM_0.1 cM_0.2 (Or.inr ⟨_, rfl⟩) rM_0_48 ?_
    refine v_iload_n (pc := 85) d_Md_find_85 rfl (.tail _ (.tail _ (.head _))) ?_
    refine v_iald (pc := 86) (x := (w 34 x2_.toNat)) d_Md_find_86 cM_34.1 cM_34.2 rfl h.1 ?_
    replace h := h.2
    refine v_iload_n (pc := 87) d_Md_find_87 rfl (.tail _ (.head _)) ?_
    refine v_callV (pc := 88) (J' := jMd_sameName) (d' := d) (o := 0) (ci := 13) (N := 93) (T := cT13) (As := [vI (w 34 x2_.toNat), vI x1_]) d_Md_find_88 ml_Md_462 cM_0.1 cM_0.2 (by decide) rfl rfl (Nat.le_of_ble_eq_true rfl) (Nat.le_refl _) rfl (Cal.weak h (fun o w1 h => ?_))
    rcases rIt_of h with ⟨x2, rfl, h⟩ | ⟨b, rfl, h⟩
    rotate_left
    · exact h
    refine v_ifeq (pc := 91) (tgt := 116) d_Md_find_91 (by decide) (fun c => ?_) (fun c => ?_)
    · replace h := h.1 c
      refine v_iinc (pc := 116) (ls' := [(2, vI (wr (x2_ + 1))), (0, vA 0), (1, vI x1_)]) d_Md_find_116 (.tail _ (.tail _ (.head _))) (by decide) rfl ?_
      refine v_goto (pc := 119) (tgt := 72) d_Md_find_119 (by decide) ?_
      exact v_sub (List.forall_mem_cons.mpr ⟨(.tail _ (.head _)), (List.forall_mem_cons.mpr ⟨(.tail _ (.tail _ (.head _))), (List.forall_mem_cons.mpr ⟨(.head _), (fun _ z => absurd z List.not_mem_nil)⟩)⟩)⟩) h
    · replace h := h.2 c
      refine v_aload_n (pc := 94) d_Md_find_94 rfl (.head _) ?_
      refine v_iconst (pc := 95) d_Md_find_95 (by decide) ?_
      refine v_puti (pc := 96) d_Md_find_96 fp_Md_466 cM_0.1 cM_0.2 (by decide) rfl ?_
      refine v_aload_n (pc := 99) d_Md_find_99 rfl (.head _) ?_
      refine v_iload_n (pc := 100) d_Md_find_100 rfl (.tail _ (.tail _ (.head _))) ?_
      refine v_puti (pc := 101) d_Md_find_101 fp_Md_472 cM_0.1 cM_0.2 (by decide) rfl ?_
      refine v_aload_n (pc := 104) d_Md_find_104 rfl (.head _) ?_
      refine v_aload_n (pc := 105) d_Md_find_105 rfl (.head _) ?_
      refine v_getr (C := "") (pc := 106) (r := 35) d_Md_find_106 fl_Md_243 cM_0.1 cM_0.2 (Or.inr ⟨_, rfl⟩) rM_0_49 ?_
      refine v_iload_n (pc := 109) d_Md_find_109 rfl (.tail _ (.tail _ (.head _))) ?_
      refine v_iald (pc := 110) (x := (w1 35 x2_.toNat)) d_Md_find_110 cM_35.1 cM_35.2 rfl h.1 ?_
      replace h := h.2
      refine v_puti (pc := 111) d_Md_find_111 fp_Md_475 cM_0.1 cM_0.2 (by decide) rfl ?_
      refine v_iconst (pc := 114) d_Md_find_114 (by decide) ?_
      exact v_zret (pc := 115) d_Md_find_115 rfl (by decide) h
theorem d_Md_numberOf_0 : decode jMd_numberOf.cc 0 = .ok (.iconst 0, 1) := by decide +kernel
theorem d_Md_numberOf_1 : decode jMd_numberOf.cc 1 = .ok (.istore_n 2, 1) := by decide +kernel
theorem d_Md_numberOf_2 : decode jMd_numberOf.cc 2 = .ok (.iconst 0, 1) := by decide +kernel
theorem d_Md_numberOf_3 : decode jMd_numberOf.cc 3 = .ok (.istore_n 3, 1) := by decide +kernel
theorem d_Md_numberOf_4 : decode jMd_numberOf.cc 4 = .ok (.iload_n 3, 1) := by decide +kernel
theorem d_Md_numberOf_5 : decode jMd_numberOf.cc 5 = .ok (.iload_n 1, 1) := by decide +kernel
theorem d_Md_numberOf_6 : decode jMd_numberOf.cc 6 = .ok (.if_icmp .ge 32, 3) := by decide +kernel
theorem d_Md_numberOf_9 : decode jMd_numberOf.cc 9 = .ok (.iload_n 2, 1) := by decide +kernel
theorem d_Md_numberOf_10 : decode jMd_numberOf.cc 10 = .ok (.aload_n 0, 1) := by decide +kernel
theorem d_Md_numberOf_11 : decode jMd_numberOf.cc 11 = .ok (.getfield 167, 3) := by decide +kernel
theorem d_Md_numberOf_14 : decode jMd_numberOf.cc 14 = .ok (.iload_n 3, 1) := by decide +kernel
theorem d_Md_numberOf_15 : decode jMd_numberOf.cc 15 = .ok (.iaload, 1) := by decide +kernel
theorem d_Md_numberOf_16 : decode jMd_numberOf.cc 16 = .ok (.aload_n 0, 1) := by decide +kernel
theorem d_Md_numberOf_17 : decode jMd_numberOf.cc 17 = .ok (.getfield 167, 3) := by decide +kernel
theorem d_Md_numberOf_20 : decode jMd_numberOf.cc 20 = .ok (.iload_n 1, 1) := by decide +kernel
theorem d_Md_numberOf_21 : decode jMd_numberOf.cc 21 = .ok (.iaload, 1) := by decide +kernel
theorem d_Md_numberOf_22 : decode jMd_numberOf.cc 22 = .ok (.if_icmp .ne 7, 3) := by decide +kernel
theorem d_Md_numberOf_25 : decode jMd_numberOf.cc 25 = .ok (.iconst 1, 1) := by decide +kernel
theorem d_Md_numberOf_26 : decode jMd_numberOf.cc 26 = .ok (.goto 4, 3) := by decide +kernel
theorem d_Md_numberOf_29 : decode jMd_numberOf.cc 29 = .ok (.iconst 0, 1) := by decide +kernel
theorem d_Md_numberOf_30 : decode jMd_numberOf.cc 30 = .ok (.iadd, 1) := by decide +kernel
theorem d_Md_numberOf_31 : decode jMd_numberOf.cc 31 = .ok (.istore_n 2, 1) := by decide +kernel
theorem d_Md_numberOf_32 : decode jMd_numberOf.cc 32 = .ok (.iinc 3 1, 3) := by decide +kernel
theorem d_Md_numberOf_35 : decode jMd_numberOf.cc 35 = .ok (.goto (-31), 3) := by decide +kernel
theorem d_Md_numberOf_38 : decode jMd_numberOf.cc 38 = .ok (.iload_n 2, 1) := by decide +kernel
theorem d_Md_numberOf_39 : decode jMd_numberOf.cc 39 = .ok (.ireturn, 1) := by decide +kernel
set_option maxHeartbeats 4000000 in
theorem s_Md_numberOf {g : Mg} {d : Nat} {K : Ou → Wd → Prop} {w : Wd} {p1 : Int} (h : V g LM jMd_numberOf d K 4 [(0, vA 0), (1, vI p1), (2, vI 0), (3, vI 0)] [] w) : V g LM jMd_numberOf d K 0 [(0, vA 0), (1, vI p1)] [] w := by
  refine v_iconst (pc := 0) d_Md_numberOf_0 (by decide) ?_
  refine v_istore_n (pc := 1) (ls' := [(2, vI 0), (0, vA 0), (1, vI p1)]) d_Md_numberOf_1 rfl (by decide) rfl ?_
  refine v_iconst (pc := 2) d_Md_numberOf_2 (by decide) ?_
  refine v_istore_n (pc := 3) (ls' := [(3, vI 0), (2, vI 0), (0, vA 0), (1, vI p1)]) d_Md_numberOf_3 rfl (by decide) rfl ?_
  exact v_sub (List.forall_mem_cons.mpr ⟨(.tail _ (.tail _ (.head _))), (List.forall_mem_cons.mpr ⟨(.tail _ (.tail _ (.tail _ (.head _)))), (List.forall_mem_cons.mpr ⟨(.tail _ (.head _)), (List.forall_mem_cons.mpr ⟨(.head _), (fun _ z => absurd z List.not_mem_nil)⟩)⟩)⟩)⟩) h
set_option maxHeartbeats 4000000 in
theorem s_Md_numberOf_4 {g : Mg} {d : Nat} {K : Ou → Wd → Prop} {w : Wd} {x1_ : Int} {x2_ : Int} {x3_ : Int} (h : (x1_ ≤ x3_ → (K (.inl (some (vI x2_))) w)) ∧ (¬ x1_ ≤ x3_ → ((0 ≤ x3_ ∧ x3_ < 30) ∧ ((0 ≤ x1_ ∧ x1_ < 30) ∧ ((¬ (w 10 x3_.toNat) = (w 10 x1_.toNat) → (V g LM jMd_numberOf d K 4 [(0, vA 0), (1, vI x1_), (2, vI (wr (x2_ + 0))), (3, vI (wr (x3_ + 1)))] [] w)) ∧ ((w 10 x3_.toNat) = (w 10 x1_.toNat) → (V g LM jMd_numberOf d K 4 [(0, vA 0), (1, vI x1_), (2, vI (wr (x2_ + 1))), (3, vI (wr (x3_ + 1)))] [] w))))))) : V g LM jMd_numberOf d K 4 [(0, vA 0), (1, vI x1_), (2, vI x2_), (3, vI x3_)] [] w := by
  refine v_iload_n (pc := 4) d_Md_numberOf_4 rfl (.tail _ (.tail _ (.tail _ (.head _)))) ?_
  refine v_iload_n (pc := 5) d_Md_numberOf_5 rfl (.tail _ (.head _)) ?_
  refine v_icmpge (pc := 6) (tgt := 38) d_Md_numberOf_6 (by decide) (fun c => ?_) (fun c => ?_)
  · replace h := h.1 c
    refine v_iload_n (pc := 38) d_Md_numberOf_38 rfl (.tail _ (.tail _ (.head _))) ?_
    exact v_iret (pc := 39) d_Md_numberOf_39 rfl h
  · replace h := h.2 c
    refine v_iload_n (pc := 9) d_Md_numberOf_9 rfl (.tail _ (.tail _ (.head _))) ?_
    refine v_aload_n (pc := 10) d_Md_numberOf_10 rfl (.head _) ?_
    refine v_getr (C := "") (pc := 11) (r := 10) d_Md_numberOf_11 fl_Md_167 cM_0.1 cM_0.2 (Or.inr ⟨_, rfl⟩) rM_0_14 ?_
    refine v_iload_n (pc := 14) d_Md_numberOf_14 rfl (.tail _ (.tail _ (.tail _ (.head _)))) ?_
    refine v_iald (pc := 15) (x := (w 10 x3_.toNat)) d_Md_numberOf_15 cM_10.1 cM_10.2 rfl h.1 ?_
    replace h := h.2
    refine v_aload_n (pc := 16) d_Md_numberOf_16 rfl (.head _) ?_
    refine v_getr (C := "") (pc := 17) (r := 10) d_Md_numberOf_17 fl_Md_167 cM_0.1 cM_0.2 (Or.inr ⟨_, rfl⟩) rM_0_14 ?_
    refine v_iload_n (pc := 20) d_Md_numberOf_20 rfl (.tail _ (.head _)) ?_
    refine v_iald (pc := 21) (x := (w 10 x1_.toNat)) d_Md_numberOf_21 cM_10.1 cM_10.2 rfl h.1 ?_
    replace h := h.2
    refine v_icmpne (pc := 22) (tgt := 29) d_Md_numberOf_22 (by decide) (fun c => ?_) (fun c => ?_)
    · replace h := h.1 c
      refine v_iconst (pc := 29) d_Md_numberOf_29 (by decide) ?_
      refine v_iadd (pc := 30) d_Md_numberOf_30 ?_
      refine v_istore_n (pc := 31) (ls' := [(2, vI (wr (x2_ + 0))), (0, vA 0), (1, vI x1_), (3, vI x3_)]) d_Md_numberOf_31 rfl (by decide) rfl ?_
      refine v_iinc (pc := 32) (ls' := [(3, vI (wr (x3_ + 1))), (2, vI (wr (x2_ + 0))), (0, vA 0), (1, vI x1_)]) d_Md_numberOf_32 (.tail _ (.tail _ (.tail _ (.head _)))) (by decide) rfl ?_
      refine v_goto (pc := 35) (tgt := 4) d_Md_numberOf_35 (by decide) ?_
      exact v_sub (List.forall_mem_cons.mpr ⟨(.tail _ (.tail _ (.head _))), (List.forall_mem_cons.mpr ⟨(.tail _ (.tail _ (.tail _ (.head _)))), (List.forall_mem_cons.mpr ⟨(.tail _ (.head _)), (List.forall_mem_cons.mpr ⟨(.head _), (fun _ z => absurd z List.not_mem_nil)⟩)⟩)⟩)⟩) h
    · replace h := h.2 c
      refine v_iconst (pc := 25) d_Md_numberOf_25 (by decide) ?_
      refine v_goto (pc := 26) (tgt := 30) d_Md_numberOf_26 (by decide) ?_
      refine v_iadd (pc := 30) d_Md_numberOf_30 ?_
      refine v_istore_n (pc := 31) (ls' := [(2, vI (wr (x2_ + 1))), (0, vA 0), (1, vI x1_), (3, vI x3_)]) d_Md_numberOf_31 rfl (by decide) rfl ?_
      refine v_iinc (pc := 32) (ls' := [(3, vI (wr (x3_ + 1))), (2, vI (wr (x2_ + 1))), (0, vA 0), (1, vI x1_)]) d_Md_numberOf_32 (.tail _ (.tail _ (.tail _ (.head _)))) (by decide) rfl ?_
      refine v_goto (pc := 35) (tgt := 4) d_Md_numberOf_35 (by decide) ?_
      exact v_sub (List.forall_mem_cons.mpr ⟨(.tail _ (.tail _ (.head _))), (List.forall_mem_cons.mpr ⟨(.tail _ (.tail _ (.tail _ (.head _)))), (List.forall_mem_cons.mpr ⟨(.tail _ (.head _)), (List.forall_mem_cons.mpr ⟨(.head _), (fun _ z => absurd z List.not_mem_nil)⟩)⟩)⟩)⟩) h
theorem d_Md_mustBe_0 : decode jMd_mustBe.cc 0 = .ok (.iload_n 2, 1) := by decide +kernel
theorem d_Md_mustBe_1 : decode jMd_mustBe.cc 1 = .ok (.iconst 2, 1) := by decide +kernel
theorem d_Md_mustBe_2 : decode jMd_mustBe.cc 2 = .ok (.if_icmp .eq 24, 3) := by decide +kernel
theorem d_Md_mustBe_5 : decode jMd_mustBe.cc 5 = .ok (.iload_n 3, 1) := by decide +kernel
theorem d_Md_mustBe_6 : decode jMd_mustBe.cc 6 = .ok (.iconst 2, 1) := by decide +kernel
theorem d_Md_mustBe_7 : decode jMd_mustBe.cc 7 = .ok (.if_icmp .eq 19, 3) := by decide +kernel
theorem d_Md_mustBe_10 : decode jMd_mustBe.cc 10 = .ok (.iload_n 2, 1) := by decide +kernel
theorem d_Md_mustBe_11 : decode jMd_mustBe.cc 11 = .ok (.iload_n 3, 1) := by decide +kernel
theorem d_Md_mustBe_12 : decode jMd_mustBe.cc 12 = .ok (.if_icmp .eq 14, 3) := by decide +kernel
theorem d_Md_mustBe_15 : decode jMd_mustBe.cc 15 = .ok (.aload_n 0, 1) := by decide +kernel
theorem d_Md_mustBe_16 : decode jMd_mustBe.cc 16 = .ok (.iconst 5, 1) := by decide +kernel
theorem d_Md_mustBe_17 : decode jMd_mustBe.cc 17 = .ok (.aload_n 0, 1) := by decide +kernel
theorem d_Md_mustBe_18 : decode jMd_mustBe.cc 18 = .ok (.getfield 222, 3) := by decide +kernel
theorem d_Md_mustBe_21 : decode jMd_mustBe.cc 21 = .ok (.iload_n 1, 1) := by decide +kernel
theorem d_Md_mustBe_22 : decode jMd_mustBe.cc 22 = .ok (.iaload, 1) := by decide +kernel
theorem d_Md_mustBe_23 : decode jMd_mustBe.cc 23 = .ok (.invokevirtual 481, 3) := by decide +kernel
theorem d_Md_mustBe_26 : decode jMd_mustBe.cc 26 = .ok (.return_, 1) := by decide +kernel
set_option maxHeartbeats 4000000 in
theorem s_Md_mustBe {g : Mg} {d : Nat} {K : Ou → Wd → Prop} {w : Wd} {p1 : Int} {p2 : Int} {p3 : Int} (h : (p2 = 2 → (K (.inl none) w)) ∧ (¬ p2 = 2 → ((p3 = 2 → (K (.inl none) w)) ∧ (¬ p3 = 2 → ((p2 = p3 → (K (.inl none) w)) ∧ (¬ p2 = p3 → ((0 ≤ p1 ∧ p1 < 2000) ∧ (Cal g LM jMd_blame d [vA 0, vI 5, vI (w 28 p1.toNat)] w (fun o w1 => rVt o (fun b => K (.inr b) w1) (K (.inl none) w1)))))))))) : V g LM jMd_mustBe (d + 1) K 0 [(0, vA 0), (1, vI p1), (2, vI p2), (3, vI p3)] [] w := by
  refine v_iload_n (pc := 0) d_Md_mustBe_0 rfl (.tail _ (.tail _ (.head _))) ?_
  refine v_iconst (pc := 1) d_Md_mustBe_1 (by decide) ?_
  refine v_icmpeq (pc := 2) (tgt := 26) d_Md_mustBe_2 (by decide) (fun c => ?_) (fun c => ?_)
  · replace h := h.1 c
    exact v_vret (pc := 26) d_Md_mustBe_26 rfl h
  · replace h := h.2 c
    refine v_iload_n (pc := 5) d_Md_mustBe_5 rfl (.tail _ (.tail _ (.tail _ (.head _)))) ?_
    refine v_iconst (pc := 6) d_Md_mustBe_6 (by decide) ?_
    refine v_icmpeq (pc := 7) (tgt := 26) d_Md_mustBe_7 (by decide) (fun c => ?_) (fun c => ?_)
    · replace h := h.1 c
      exact v_vret (pc := 26) d_Md_mustBe_26 rfl h
    · replace h := h.2 c
      refine v_iload_n (pc := 10) d_Md_mustBe_10 rfl (.tail _ (.tail _ (.head _))) ?_
      refine v_iload_n (pc := 11) d_Md_mustBe_11 rfl (.tail _ (.tail _ (.tail _ (.head _)))) ?_
      refine v_icmpeq (pc := 12) (tgt := 26) d_Md_mustBe_12 (by decide) (fun c => ?_) (fun c => ?_)
      · replace h := h.1 c
        exact v_vret (pc := 26) d_Md_mustBe_26 rfl h
      · replace h := h.2 c
        refine v_aload_n (pc := 15) d_Md_mustBe_15 rfl (.head _) ?_
        refine v_iconst (pc := 16) d_Md_mustBe_16 (by decide) ?_
        refine v_aload_n (pc := 17) d_Md_mustBe_17 rfl (.head _) ?_
        refine v_getr (C := "") (pc := 18) (r := 28) d_Md_mustBe_18 fl_Md_222 cM_0.1 cM_0.2 (Or.inr ⟨_, rfl⟩) rM_0_34 ?_
        refine v_iload_n (pc := 21) d_Md_mustBe_21 rfl (.tail _ (.head _)) ?_
        refine v_iald (pc := 22) (x := (w 28 p1.toNat)) d_Md_mustBe_22 cM_28.1 cM_28.2 rfl h.1 ?_
        replace h := h.2
        refine v_callV (pc := 23) (J' := jMd_blame) (d' := d) (o := 0) (ci := 13) (N := 93) (T := cT13) (As := [vI 5, vI (w 28 p1.toNat)]) d_Md_mustBe_23 ml_Md_481 cM_0.1 cM_0.2 (by decide) rfl rfl (Nat.le_of_ble_eq_true rfl) (Nat.le_refl _) rfl (Cal.weak h (fun o w1 h => ?_))
        rcases rVt_of h with ⟨rfl, h⟩ | ⟨b, rfl, h⟩
        rotate_left
        · exact h
        exact v_vret (pc := 26) d_Md_mustBe_26 rfl h
theorem d_Md_judge_0 : decode jMd_judge.cc 0 = .ok (.aload_n 0, 1) := by decide +kernel
theorem d_Md_judge_1 : decode jMd_judge.cc 1 = .ok (.getfield 225, 3) := by decide +kernel
theorem d_Md_judge_4 : decode jMd_judge.cc 4 = .ok (.iload_n 1, 1) := by decide +kernel
theorem d_Md_judge_5 : decode jMd_judge.cc 5 = .ok (.iaload, 1) := by decide +kernel
theorem d_Md_judge_6 : decode jMd_judge.cc 6 = .ok (.istore_n 3, 1) := by decide +kernel
theorem d_Md_judge_7 : decode jMd_judge.cc 7 = .ok (.aload_n 0, 1) := by decide +kernel
theorem d_Md_judge_8 : decode jMd_judge.cc 8 = .ok (.getfield 228, 3) := by decide +kernel
theorem d_Md_judge_11 : decode jMd_judge.cc 11 = .ok (.iload_n 1, 1) := by decide +kernel
theorem d_Md_judge_12 : decode jMd_judge.cc 12 = .ok (.iaload, 1) := by decide +kernel
theorem d_Md_judge_13 : decode jMd_judge.cc 13 = .ok (.istore 4, 2) := by decide +kernel
theorem d_Md_judge_15 : decode jMd_judge.cc 15 = .ok (.aload_n 0, 1) := by decide +kernel
theorem d_Md_judge_16 : decode jMd_judge.cc 16 = .ok (.getfield 216, 3) := by decide +kernel
theorem d_Md_judge_19 : decode jMd_judge.cc 19 = .ok (.iload_n 1, 1) := by decide +kernel
theorem d_Md_judge_20 : decode jMd_judge.cc 20 = .ok (.iaload, 1) := by decide +kernel
theorem d_Md_judge_21 : decode jMd_judge.cc 21 = .ok (.tableswitch 325 1 11 #[59, 59, 61, 119, 168, 325, 214, 228, 290, 304, 318], 59) := by decide +kernel
theorem d_Md_judge_80 : decode jMd_judge.cc 80 = .ok (.iconst 1, 1) := by decide +kernel
theorem d_Md_judge_81 : decode jMd_judge.cc 81 = .ok (.ireturn, 1) := by decide +kernel
theorem d_Md_judge_82 : decode jMd_judge.cc 82 = .ok (.aload_n 0, 1) := by decide +kernel
theorem d_Md_judge_83 : decode jMd_judge.cc 83 = .ok (.aload_n 0, 1) := by decide +kernel
theorem d_Md_judge_84 : decode jMd_judge.cc 84 = .ok (.getfield 219, 3) := by decide +kernel
theorem d_Md_judge_87 : decode jMd_judge.cc 87 = .ok (.iload_n 1, 1) := by decide +kernel
theorem d_Md_judge_88 : decode jMd_judge.cc 88 = .ok (.iaload, 1) := by decide +kernel
theorem d_Md_judge_89 : decode jMd_judge.cc 89 = .ok (.invokevirtual 484, 3) := by decide +kernel
theorem d_Md_judge_92 : decode jMd_judge.cc 92 = .ok (.ifCond .eq 10, 3) := by decide +kernel
theorem d_Md_judge_95 : decode jMd_judge.cc 95 = .ok (.aload_n 0, 1) := by decide +kernel
theorem d_Md_judge_96 : decode jMd_judge.cc 96 = .ok (.getfield 466, 3) := by decide +kernel
theorem d_Md_judge_99 : decode jMd_judge.cc 99 = .ok (.ifCond .ne 16, 3) := by decide +kernel
theorem d_Md_judge_102 : decode jMd_judge.cc 102 = .ok (.aload_n 0, 1) := by decide +kernel
theorem d_Md_judge_103 : decode jMd_judge.cc 103 = .ok (.iconst 4, 1) := by decide +kernel
theorem d_Md_judge_104 : decode jMd_judge.cc 104 = .ok (.aload_n 0, 1) := by decide +kernel
theorem d_Md_judge_105 : decode jMd_judge.cc 105 = .ok (.getfield 219, 3) := by decide +kernel
theorem d_Md_judge_108 : decode jMd_judge.cc 108 = .ok (.iload_n 1, 1) := by decide +kernel
theorem d_Md_judge_109 : decode jMd_judge.cc 109 = .ok (.iaload, 1) := by decide +kernel
theorem d_Md_judge_110 : decode jMd_judge.cc 110 = .ok (.invokevirtual 481, 3) := by decide +kernel
theorem d_Md_judge_113 : decode jMd_judge.cc 113 = .ok (.iconst 2, 1) := by decide +kernel
theorem d_Md_judge_114 : decode jMd_judge.cc 114 = .ok (.ireturn, 1) := by decide +kernel
theorem d_Md_judge_115 : decode jMd_judge.cc 115 = .ok (.aload_n 0, 1) := by decide +kernel
theorem d_Md_judge_116 : decode jMd_judge.cc 116 = .ok (.getfield 234, 3) := by decide +kernel
theorem d_Md_judge_119 : decode jMd_judge.cc 119 = .ok (.iload_n 1, 1) := by decide +kernel
theorem d_Md_judge_120 : decode jMd_judge.cc 120 = .ok (.aload_n 0, 1) := by decide +kernel
theorem d_Md_judge_121 : decode jMd_judge.cc 121 = .ok (.getfield 466, 3) := by decide +kernel
theorem d_Md_judge_124 : decode jMd_judge.cc 124 = .ok (.iastore, 1) := by decide +kernel
theorem d_Md_judge_125 : decode jMd_judge.cc 125 = .ok (.aload_n 0, 1) := by decide +kernel
theorem d_Md_judge_126 : decode jMd_judge.cc 126 = .ok (.getfield 237, 3) := by decide +kernel
theorem d_Md_judge_129 : decode jMd_judge.cc 129 = .ok (.iload_n 1, 1) := by decide +kernel
theorem d_Md_judge_130 : decode jMd_judge.cc 130 = .ok (.aload_n 0, 1) := by decide +kernel
theorem d_Md_judge_131 : decode jMd_judge.cc 131 = .ok (.getfield 472, 3) := by decide +kernel
theorem d_Md_judge_134 : decode jMd_judge.cc 134 = .ok (.iastore, 1) := by decide +kernel
theorem d_Md_judge_135 : decode jMd_judge.cc 135 = .ok (.aload_n 0, 1) := by decide +kernel
theorem d_Md_judge_136 : decode jMd_judge.cc 136 = .ok (.getfield 475, 3) := by decide +kernel
theorem d_Md_judge_139 : decode jMd_judge.cc 139 = .ok (.ireturn, 1) := by decide +kernel
theorem d_Md_judge_140 : decode jMd_judge.cc 140 = .ok (.iload_n 2, 1) := by decide +kernel
theorem d_Md_judge_141 : decode jMd_judge.cc 141 = .ok (.ifCond .eq 23, 3) := by decide +kernel
theorem d_Md_judge_144 : decode jMd_judge.cc 144 = .ok (.aload_n 0, 1) := by decide +kernel
theorem d_Md_judge_145 : decode jMd_judge.cc 145 = .ok (.aload_n 0, 1) := by decide +kernel
theorem d_Md_judge_146 : decode jMd_judge.cc 146 = .ok (.getfield 219, 3) := by decide +kernel
theorem d_Md_judge_149 : decode jMd_judge.cc 149 = .ok (.iload_n 1, 1) := by decide +kernel
theorem d_Md_judge_150 : decode jMd_judge.cc 150 = .ok (.iaload, 1) := by decide +kernel
theorem d_Md_judge_151 : decode jMd_judge.cc 151 = .ok (.invokevirtual 484, 3) := by decide +kernel
theorem d_Md_judge_154 : decode jMd_judge.cc 154 = .ok (.ifCond .eq 10, 3) := by decide +kernel
theorem d_Md_judge_157 : decode jMd_judge.cc 157 = .ok (.aload_n 0, 1) := by decide +kernel
theorem d_Md_judge_158 : decode jMd_judge.cc 158 = .ok (.getfield 466, 3) := by decide +kernel
theorem d_Md_judge_161 : decode jMd_judge.cc 161 = .ok (.ifCond .eq 16, 3) := by decide +kernel
theorem d_Md_judge_164 : decode jMd_judge.cc 164 = .ok (.aload_n 0, 1) := by decide +kernel
theorem d_Md_judge_165 : decode jMd_judge.cc 165 = .ok (.iconst 4, 1) := by decide +kernel
theorem d_Md_judge_166 : decode jMd_judge.cc 166 = .ok (.aload_n 0, 1) := by decide +kernel
theorem d_Md_judge_167 : decode jMd_judge.cc 167 = .ok (.getfield 219, 3) := by decide +kernel
theorem d_Md_judge_170 : decode jMd_judge.cc 170 = .ok (.iload_n 1, 1) := by decide +kernel
theorem d_Md_judge_171 : decode jMd_judge.cc 171 = .ok (.iaload, 1) := by decide +kernel
theorem d_Md_judge_172 : decode jMd_judge.cc 172 = .ok (.invokevirtual 481, 3) := by decide +kernel
theorem d_Md_judge_175 : decode jMd_judge.cc 175 = .ok (.iconst 2, 1) := by decide +kernel
theorem d_Md_judge_176 : decode jMd_judge.cc 176 = .ok (.ireturn, 1) := by decide +kernel
theorem d_Md_judge_177 : decode jMd_judge.cc 177 = .ok (.aload_n 0, 1) := by decide +kernel
theorem d_Md_judge_178 : decode jMd_judge.cc 178 = .ok (.getfield 237, 3) := by decide +kernel
theorem d_Md_judge_181 : decode jMd_judge.cc 181 = .ok (.iload_n 1, 1) := by decide +kernel
theorem d_Md_judge_182 : decode jMd_judge.cc 182 = .ok (.aload_n 0, 1) := by decide +kernel
theorem d_Md_judge_183 : decode jMd_judge.cc 183 = .ok (.getfield 472, 3) := by decide +kernel
theorem d_Md_judge_186 : decode jMd_judge.cc 186 = .ok (.iastore, 1) := by decide +kernel
theorem d_Md_judge_187 : decode jMd_judge.cc 187 = .ok (.iconst 0, 1) := by decide +kernel
theorem d_Md_judge_188 : decode jMd_judge.cc 188 = .ok (.ireturn, 1) := by decide +kernel
theorem d_Md_judge_189 : decode jMd_judge.cc 189 = .ok (.aload_n 0, 1) := by decide +kernel
theorem d_Md_judge_190 : decode jMd_judge.cc 190 = .ok (.aload_n 0, 1) := by decide +kernel
theorem d_Md_judge_191 : decode jMd_judge.cc 191 = .ok (.getfield 219, 3) := by decide +kernel
theorem d_Md_judge_194 : decode jMd_judge.cc 194 = .ok (.iload_n 1, 1) := by decide +kernel
theorem d_Md_judge_195 : decode jMd_judge.cc 195 = .ok (.iaload, 1) := by decide +kernel
theorem d_Md_judge_196 : decode jMd_judge.cc 196 = .ok (.invokevirtual 484, 3) := by decide +kernel
theorem d_Md_judge_199 : decode jMd_judge.cc 199 = .ok (.ifCond .eq 11, 3) := by decide +kernel
theorem d_Md_judge_202 : decode jMd_judge.cc 202 = .ok (.aload_n 0, 1) := by decide +kernel
theorem d_Md_judge_203 : decode jMd_judge.cc 203 = .ok (.getfield 466, 3) := by decide +kernel
theorem d_Md_judge_206 : decode jMd_judge.cc 206 = .ok (.iconst 2, 1) := by decide +kernel
theorem d_Md_judge_207 : decode jMd_judge.cc 207 = .ok (.if_icmp .eq 16, 3) := by decide +kernel
theorem d_Md_judge_210 : decode jMd_judge.cc 210 = .ok (.aload_n 0, 1) := by decide +kernel
theorem d_Md_judge_211 : decode jMd_judge.cc 211 = .ok (.iconst 4, 1) := by decide +kernel
theorem d_Md_judge_212 : decode jMd_judge.cc 212 = .ok (.aload_n 0, 1) := by decide +kernel
theorem d_Md_judge_213 : decode jMd_judge.cc 213 = .ok (.getfield 219, 3) := by decide +kernel
theorem d_Md_judge_216 : decode jMd_judge.cc 216 = .ok (.iload_n 1, 1) := by decide +kernel
theorem d_Md_judge_217 : decode jMd_judge.cc 217 = .ok (.iaload, 1) := by decide +kernel
theorem d_Md_judge_218 : decode jMd_judge.cc 218 = .ok (.invokevirtual 481, 3) := by decide +kernel
theorem d_Md_judge_221 : decode jMd_judge.cc 221 = .ok (.iconst 2, 1) := by decide +kernel
theorem d_Md_judge_222 : decode jMd_judge.cc 222 = .ok (.ireturn, 1) := by decide +kernel
theorem d_Md_judge_223 : decode jMd_judge.cc 223 = .ok (.aload_n 0, 1) := by decide +kernel
theorem d_Md_judge_224 : decode jMd_judge.cc 224 = .ok (.getfield 237, 3) := by decide +kernel
theorem d_Md_judge_227 : decode jMd_judge.cc 227 = .ok (.iload_n 1, 1) := by decide +kernel
theorem d_Md_judge_228 : decode jMd_judge.cc 228 = .ok (.aload_n 0, 1) := by decide +kernel
theorem d_Md_judge_229 : decode jMd_judge.cc 229 = .ok (.getfield 472, 3) := by decide +kernel
theorem d_Md_judge_232 : decode jMd_judge.cc 232 = .ok (.iastore, 1) := by decide +kernel
theorem d_Md_judge_233 : decode jMd_judge.cc 233 = .ok (.iconst 1, 1) := by decide +kernel
theorem d_Md_judge_234 : decode jMd_judge.cc 234 = .ok (.ireturn, 1) := by decide +kernel
theorem d_Md_judge_235 : decode jMd_judge.cc 235 = .ok (.aload_n 0, 1) := by decide +kernel
theorem d_Md_judge_236 : decode jMd_judge.cc 236 = .ok (.iload_n 3, 1) := by decide +kernel
theorem d_Md_judge_237 : decode jMd_judge.cc 237 = .ok (.aload_n 0, 1) := by decide +kernel
theorem d_Md_judge_238 : decode jMd_judge.cc 238 = .ok (.iload_n 3, 1) := by decide +kernel
theorem d_Md_judge_239 : decode jMd_judge.cc 239 = .ok (.iload_n 2, 1) := by decide +kernel
theorem d_Md_judge_240 : decode jMd_judge.cc 240 = .ok (.invokestatic 487, 3) := by decide +kernel
theorem d_Md_judge_243 : decode jMd_judge.cc 243 = .ok (.iconst 0, 1) := by decide +kernel
theorem d_Md_judge_244 : decode jMd_judge.cc 244 = .ok (.invokevirtual 491, 3) := by decide +kernel
theorem d_Md_judge_247 : decode jMd_judge.cc 247 = .ok (.iconst 0, 1) := by decide +kernel
theorem d_Md_judge_248 : decode jMd_judge.cc 248 = .ok (.ireturn, 1) := by decide +kernel
theorem d_Md_judge_249 : decode jMd_judge.cc 249 = .ok (.aload_n 0, 1) := by decide +kernel
theorem d_Md_judge_250 : decode jMd_judge.cc 250 = .ok (.iload_n 3, 1) := by decide +kernel
theorem d_Md_judge_251 : decode jMd_judge.cc 251 = .ok (.aload_n 0, 1) := by decide +kernel
theorem d_Md_judge_252 : decode jMd_judge.cc 252 = .ok (.iload_n 3, 1) := by decide +kernel
theorem d_Md_judge_253 : decode jMd_judge.cc 253 = .ok (.iload_n 2, 1) := by decide +kernel
theorem d_Md_judge_254 : decode jMd_judge.cc 254 = .ok (.invokestatic 487, 3) := by decide +kernel
theorem d_Md_judge_257 : decode jMd_judge.cc 257 = .ok (.iconst 1, 1) := by decide +kernel
theorem d_Md_judge_258 : decode jMd_judge.cc 258 = .ok (.invokevirtual 491, 3) := by decide +kernel
theorem d_Md_judge_261 : decode jMd_judge.cc 261 = .ok (.aload_n 0, 1) := by decide +kernel
theorem d_Md_judge_262 : decode jMd_judge.cc 262 = .ok (.iload 4, 2) := by decide +kernel
theorem d_Md_judge_264 : decode jMd_judge.cc 264 = .ok (.iload_n 2, 1) := by decide +kernel
theorem d_Md_judge_265 : decode jMd_judge.cc 265 = .ok (.invokestatic 487, 3) := by decide +kernel
theorem d_Md_judge_268 : decode jMd_judge.cc 268 = .ok (.istore 5, 2) := by decide +kernel
theorem d_Md_judge_270 : decode jMd_judge.cc 270 = .ok (.aload_n 0, 1) := by decide +kernel
theorem d_Md_judge_271 : decode jMd_judge.cc 271 = .ok (.aload_n 0, 1) := by decide +kernel
theorem d_Md_judge_272 : decode jMd_judge.cc 272 = .ok (.getfield 231, 3) := by decide +kernel
theorem d_Md_judge_275 : decode jMd_judge.cc 275 = .ok (.iload_n 1, 1) := by decide +kernel
theorem d_Md_judge_276 : decode jMd_judge.cc 276 = .ok (.iaload, 1) := by decide +kernel
theorem d_Md_judge_277 : decode jMd_judge.cc 277 = .ok (.iload_n 2, 1) := by decide +kernel
theorem d_Md_judge_278 : decode jMd_judge.cc 278 = .ok (.invokestatic 487, 3) := by decide +kernel
theorem d_Md_judge_281 : decode jMd_judge.cc 281 = .ok (.istore 6, 2) := by decide +kernel
theorem d_Md_judge_283 : decode jMd_judge.cc 283 = .ok (.aload_n 0, 1) := by decide +kernel
theorem d_Md_judge_284 : decode jMd_judge.cc 284 = .ok (.aload_n 0, 1) := by decide +kernel
theorem d_Md_judge_285 : decode jMd_judge.cc 285 = .ok (.getfield 231, 3) := by decide +kernel
theorem d_Md_judge_288 : decode jMd_judge.cc 288 = .ok (.iload_n 1, 1) := by decide +kernel
theorem d_Md_judge_289 : decode jMd_judge.cc 289 = .ok (.iaload, 1) := by decide +kernel
theorem d_Md_judge_290 : decode jMd_judge.cc 290 = .ok (.iload 6, 2) := by decide +kernel
theorem d_Md_judge_292 : decode jMd_judge.cc 292 = .ok (.iload 5, 2) := by decide +kernel
theorem d_Md_judge_294 : decode jMd_judge.cc 294 = .ok (.invokevirtual 491, 3) := by decide +kernel
theorem d_Md_judge_297 : decode jMd_judge.cc 297 = .ok (.iload 5, 2) := by decide +kernel
theorem d_Md_judge_299 : decode jMd_judge.cc 299 = .ok (.iconst 2, 1) := by decide +kernel
theorem d_Md_judge_300 : decode jMd_judge.cc 300 = .ok (.if_icmp .ne 8, 3) := by decide +kernel
theorem d_Md_judge_303 : decode jMd_judge.cc 303 = .ok (.iload 6, 2) := by decide +kernel
theorem d_Md_judge_305 : decode jMd_judge.cc 305 = .ok (.goto 5, 3) := by decide +kernel
theorem d_Md_judge_308 : decode jMd_judge.cc 308 = .ok (.iload 5, 2) := by decide +kernel
theorem d_Md_judge_310 : decode jMd_judge.cc 310 = .ok (.ireturn, 1) := by decide +kernel
theorem d_Md_judge_311 : decode jMd_judge.cc 311 = .ok (.aload_n 0, 1) := by decide +kernel
theorem d_Md_judge_312 : decode jMd_judge.cc 312 = .ok (.iload_n 3, 1) := by decide +kernel
theorem d_Md_judge_313 : decode jMd_judge.cc 313 = .ok (.aload_n 0, 1) := by decide +kernel
theorem d_Md_judge_314 : decode jMd_judge.cc 314 = .ok (.iload_n 3, 1) := by decide +kernel
theorem d_Md_judge_315 : decode jMd_judge.cc 315 = .ok (.iload_n 2, 1) := by decide +kernel
theorem d_Md_judge_316 : decode jMd_judge.cc 316 = .ok (.invokestatic 487, 3) := by decide +kernel
theorem d_Md_judge_319 : decode jMd_judge.cc 319 = .ok (.iconst 0, 1) := by decide +kernel
theorem d_Md_judge_320 : decode jMd_judge.cc 320 = .ok (.invokevirtual 491, 3) := by decide +kernel
theorem d_Md_judge_323 : decode jMd_judge.cc 323 = .ok (.iconst 0, 1) := by decide +kernel
theorem d_Md_judge_324 : decode jMd_judge.cc 324 = .ok (.ireturn, 1) := by decide +kernel
theorem d_Md_judge_325 : decode jMd_judge.cc 325 = .ok (.aload_n 0, 1) := by decide +kernel
theorem d_Md_judge_326 : decode jMd_judge.cc 326 = .ok (.iload_n 3, 1) := by decide +kernel
theorem d_Md_judge_327 : decode jMd_judge.cc 327 = .ok (.aload_n 0, 1) := by decide +kernel
theorem d_Md_judge_328 : decode jMd_judge.cc 328 = .ok (.iload_n 3, 1) := by decide +kernel
theorem d_Md_judge_329 : decode jMd_judge.cc 329 = .ok (.iload_n 2, 1) := by decide +kernel
theorem d_Md_judge_330 : decode jMd_judge.cc 330 = .ok (.invokestatic 487, 3) := by decide +kernel
theorem d_Md_judge_333 : decode jMd_judge.cc 333 = .ok (.iconst 1, 1) := by decide +kernel
theorem d_Md_judge_334 : decode jMd_judge.cc 334 = .ok (.invokevirtual 491, 3) := by decide +kernel
theorem d_Md_judge_337 : decode jMd_judge.cc 337 = .ok (.iconst 1, 1) := by decide +kernel
theorem d_Md_judge_338 : decode jMd_judge.cc 338 = .ok (.ireturn, 1) := by decide +kernel
theorem d_Md_judge_339 : decode jMd_judge.cc 339 = .ok (.aload_n 0, 1) := by decide +kernel
theorem d_Md_judge_340 : decode jMd_judge.cc 340 = .ok (.iload_n 1, 1) := by decide +kernel
theorem d_Md_judge_341 : decode jMd_judge.cc 341 = .ok (.iload_n 2, 1) := by decide +kernel
theorem d_Md_judge_342 : decode jMd_judge.cc 342 = .ok (.invokestatic 495, 3) := by decide +kernel
theorem d_Md_judge_345 : decode jMd_judge.cc 345 = .ok (.ireturn, 1) := by decide +kernel
theorem d_Md_judge_346 : decode jMd_judge.cc 346 = .ok (.iconst 0, 1) := by decide +kernel
theorem d_Md_judge_347 : decode jMd_judge.cc 347 = .ok (.ireturn, 1) := by decide +kernel
set_option maxHeartbeats 4000000 in
theorem s_Md_judge {g : Mg} {d : Nat} {K : Ou → Wd → Prop} {w : Wd} {p1 : Int} {p2 : Int} (h : (0 ≤ p1 ∧ p1 < 2000) ∧ ((0 ≤ p1 ∧ p1 < 2000) ∧ ((0 ≤ p1 ∧ p1 < 2000) ∧ ((((w 26 p1.toNat) < 1 ∨ 11 < (w 26 p1.toNat)) → (K (.inl (some (vI 0))) w)) ∧ ((w 26 p1.toNat) = 1 → (K (.inl (some (vI 1))) w)) ∧ ((w 26 p1.toNat) = 2 → (K (.inl (some (vI 1))) w)) ∧ ((w 26 p1.toNat) = 3 → ((0 ≤ p1 ∧ p1 < 2000) ∧ (Cal g LM jMd_find d [vA 0, vI (w 27 p1.toNat)] w (fun o w1 => rIt o (fun b => K (.inr b) w1) (fun x2 => (x2 = 0 → ((0 ≤ p1 ∧ p1 < 2000) ∧ (Cal g LM jMd_blame d [vA 0, vI 4, vI (w1 27 p1.toNat)] w1 (fun o w3 => rVt o (fun b => K (.inr b) w3) (K (.inl (some (vI 2))) w3))))) ∧ (¬ x2 = 0 → ((¬ (w1 0 51) = 0 → ((0 ≤ p1 ∧ p1 < 2000) ∧ ((0 ≤ p1 ∧ p1 < 2000) ∧ (K (.inl (some (vI (w1 0 53)))) (up (up w1 32 (p1.toNat) (w1 0 51)) 33 (p1.toNat) (w1 0 52)))))) ∧ ((w1 0 51) = 0 → ((0 ≤ p1 ∧ p1 < 2000) ∧ (Cal g LM jMd_blame d [vA 0, vI 4, vI (w1 27 p1.toNat)] w1 (fun o w4 => rVt o (fun b => K (.inr b) w4) (K (.inl (some (vI 2))) w4)))))))))))) ∧ ((w 26 p1.toNat) = 4 → ((p2 = 0 → ((0 ≤ p1 ∧ p1 < 2000) ∧ (Cal g LM jMd_blame d [vA 0, vI 4, vI (w 27 p1.toNat)] w (fun o w5 => rVt o (fun b => K (.inr b) w5) (K (.inl (some (vI 2))) w5))))) ∧ (¬ p2 = 0 → ((0 ≤ p1 ∧ p1 < 2000) ∧ (Cal g LM jMd_find d [vA 0, vI (w 27 p1.toNat)] w (fun o w6 => rIt o (fun b => K (.inr b) w6) (fun x7 => (x7 = 0 → ((0 ≤ p1 ∧ p1 < 2000) ∧ (Cal g LM jMd_blame d [vA 0, vI 4, vI (w6 27 p1.toNat)] w6 (fun o w8 => rVt o (fun b => K (.inr b) w8) (K (.inl (some (vI 2))) w8))))) ∧ (¬ x7 = 0 → (((w6 0 51) = 0 → ((0 ≤ p1 ∧ p1 < 2000) ∧ (K (.inl (some (vI 0))) (up w6 33 (p1.toNat) (w6 0 52))))) ∧ (¬ (w6 0 51) = 0 → ((0 ≤ p1 ∧ p1 < 2000) ∧ (Cal g LM jMd_blame d [vA 0, vI 4, vI (w6 27 p1.toNat)] w6 (fun o w9 => rVt o (fun b => K (.inr b) w9) (K (.inl (some (vI 2))) w9)))))))))))))) ∧ ((w 26 p1.toNat) = 5 → ((0 ≤ p1 ∧ p1 < 2000) ∧ (Cal g LM jMd_find d [vA 0, vI (w 27 p1.toNat)] w (fun o w10 => rIt o (fun b => K (.inr b) w10) (fun x11 => (x11 = 0 → ((0 ≤ p1 ∧ p1 < 2000) ∧ (Cal g LM jMd_blame d [vA 0, vI 4, vI (w10 27 p1.toNat)] w10 (fun o w12 => rVt o (fun b => K (.inr b) w12) (K (.inl (some (vI 2))) w12))))) ∧ (¬ x11 = 0 → (((w10 0 51) = 2 → ((0 ≤ p1 ∧ p1 < 2000) ∧ (K (.inl (some (vI 1))) (up w10 33 (p1.toNat) (w10 0 52))))) ∧ (¬ (w10 0 51) = 2 → ((0 ≤ p1 ∧ p1 < 2000) ∧ (Cal g LM jMd_blame d [vA 0, vI 4, vI (w10 27 p1.toNat)] w10 (fun o w13 => rVt o (fun b => K (.inr b) w13) (K (.inl (some (vI 2))) w13)))))))))))) ∧ ((w 26 p1.toNat) = 6 → (K (.inl (some (vI 0))) w)) ∧ ((w 26 p1.toNat) = 7 → (Cal g LM jMd_judge d [vA 0, vI (w 29 p1.toNat), vI p2] w (fun o w14 => rIt o (fun b => K (.inr b) w14) (fun x15 => Cal g LM jMd_mustBe d [vA 0, vI (w 29 p1.toNat), vI x15, vI 0] w14 (fun o w16 => rVt o (fun b => K (.inr b) w16) (K (.inl (some (vI 0))) w16)))))) ∧ ((w 26 p1.toNat) = 8 → (Cal g LM jMd_judge d [vA 0, vI (w 29 p1.toNat), vI p2] w (fun o w17 => rIt o (fun b => K (.inr b) w17) (fun x18 => Cal g LM jMd_mustBe d [vA 0, vI (w 29 p1.toNat), vI x18, vI 1] w17 (fun o w19 => rVt o (fun b => K (.inr b) w19) (Cal g LM jMd_judge d [vA 0, vI (w 30 p1.toNat), vI p2] w19 (fun o w20 => rIt o (fun b => K (.inr b) w20) (fun x21 => (0 ≤ p1 ∧ p1 < 2000) ∧ (Cal g LM jMd_judge d [vA 0, vI (w20 31 p1.toNat), vI p2] w20 (fun o w22 => rIt o (fun b => K (.inr b) w22) (fun x23 => (0 ≤ p1 ∧ p1 < 2000) ∧ (Cal g LM jMd_mustBe d [vA 0, vI (w22 31 p1.toNat), vI x23, vI x21] w22 (fun o w24 => rVt o (fun b => K (.inr b) w24) ((¬ x21 = 2 → (K (.inl (some (vI x21))) w24)) ∧ (x21 = 2 → (K (.inl (some (vI x23))) w24)))))))))))))))) ∧ ((w 26 p1.toNat) = 9 → (Cal g LM jMd_judge d [vA 0, vI (w 29 p1.toNat), vI p2] w (fun o w25 => rIt o (fun b => K (.inr b) w25) (fun x26 => Cal g LM jMd_mustBe d [vA 0, vI (w 29 p1.toNat), vI x26, vI 0] w25 (fun o w27 => rVt o (fun b => K (.inr b) w27) (K (.inl (some (vI 0))) w27)))))) ∧ ((w 26 p1.toNat) = 10 → (Cal g LM jMd_judge d [vA 0, vI (w 29 p1.toNat), vI p2] w (fun o w28 => rIt o (fun b => K (.inr b) w28) (fun x29 => Cal g LM jMd_mustBe d [vA 0, vI (w 29 p1.toNat), vI x29, vI 1] w28 (fun o w30 => rVt o (fun b => K (.inr b) w30) (K (.inl (some (vI 1))) w30)))))) ∧ ((w 26 p1.toNat) = 11 → (Cal g LM jMd_judgeBinary d [vA 0, vI p1, vI p2] w (fun o w31 => rIt o (fun b => K (.inr b) w31) (fun x32 => K (.inl (some (vI x32))) w31)))))))) : V g LM jMd_judge (d + 1) K 0 [(0, vA 0), (1, vI p1), (2, vI p2)] [] w := by
  refine v_aload_n (pc := 0) d_Md_judge_0 rfl (.head _) ?_
  refine v_getr (C := "") (pc := 1) (r := 29) d_Md_judge_1 fl_Md_225 cM_0.1 cM_0.2 (Or.inr ⟨_, rfl⟩) rM_0_35 ?_
  refine v_iload_n (pc := 4) d_Md_judge_4 rfl (.tail _ (.head _)) ?_
  refine v_iald (pc := 5) (x := (w 29 p1.toNat)) d_Md_judge_5 cM_29.1 cM_29.2 rfl h.1 ?_
  replace h := h.2
  refine v_istore_n (pc := 6) (ls' := [(3, vI (w 29 p1.toNat)), (0, vA 0), (1, vI p1), (2, vI p2)]) d_Md_judge_6 rfl (by decide) rfl ?_
  refine v_aload_n (pc := 7) d_Md_judge_7 rfl (.tail _ (.head _)) ?_
  refine v_getr (C := "") (pc := 8) (r := 30) d_Md_judge_8 fl_Md_228 cM_0.1 cM_0.2 (Or.inr ⟨_, rfl⟩) rM_0_36 ?_
  refine v_iload_n (pc := 11) d_Md_judge_11 rfl (.tail _ (.tail _ (.head _))) ?_
  refine v_iald (pc := 12) (x := (w 30 p1.toNat)) d_Md_judge_12 cM_30.1 cM_30.2 rfl h.1 ?_
  replace h := h.2
  refine v_istore (pc := 13) (ls' := [(4, vI (w 30 p1.toNat)), (3, vI (w 29 p1.toNat)), (0, vA 0), (1, vI p1), (2, vI p2)]) d_Md_judge_13 (by decide) rfl ?_
  refine v_aload_n (pc := 15) d_Md_judge_15 rfl (.tail _ (.tail _ (.head _))) ?_
  refine v_getr (C := "") (pc := 16) (r := 26) d_Md_judge_16 fl_Md_216 cM_0.1 cM_0.2 (Or.inr ⟨_, rfl⟩) rM_0_32 ?_
  refine v_iload_n (pc := 19) d_Md_judge_19 rfl (.tail _ (.tail _ (.tail _ (.head _)))) ?_
  refine v_iald (pc := 20) (x := (w 26 p1.toNat)) d_Md_judge_20 cM_26.1 cM_26.2 rfl h.1 ?_
  replace h := h.2
  refine v_table (pc := 21) (tgd := 346) (tgs := [80, 80, 82, 140, 189, 346, 235, 249, 311, 325, 339]) d_Md_judge_21 (by decide) (by decide) (by decide) (fun c => ?_) ⟨fun c => ?_, fun c => ?_, fun c => ?_, fun c => ?_, fun c => ?_, fun c => ?_, fun c => ?_, fun c => ?_, fun c => ?_, fun c => ?_, fun c => ?_, trivial⟩
  · replace h := h.1 c
    refine v_iconst (pc := 346) d_Md_judge_346 (by decide) ?_
    exact v_iret (pc := 347) d_Md_judge_347 rfl h
  · replace h := h.2.1 c
    refine v_iconst (pc := 80) d_Md_judge_80 (by decide) ?_
    exact v_iret (pc := 81) d_Md_judge_81 rfl h
  · replace h := h.2.2.1 c
    refine v_iconst (pc := 80) d_Md_judge_80 (by decide) ?_
    exact v_iret (pc := 81) d_Md_judge_81 rfl h
  · replace h := h.2.2.2.1 c
    refine v_aload_n (pc := 82) d_Md_judge_82 rfl (.tail _ (.tail _ (.head _))) ?_
    refine v_aload_n (pc := 83) d_Md_judge_83 rfl (.tail _ (.tail _ (.head _))) ?_
    refine v_getr (C := "") (pc := 84) (r := 27) d_Md_judge_84 fl_Md_219 cM_0.1 cM_0.2 (Or.inr ⟨_, rfl⟩) rM_0_33 ?_
    refine v_iload_n (pc := 87) d_Md_judge_87 rfl (.tail _ (.tail _ (.tail _ (.head _)))) ?_
    refine v_iald (pc := 88) (x := (w 27 p1.toNat)) d_Md_judge_88 cM_27.1 cM_27.2 rfl h.1 ?_
    replace h := h.2
    refine v_callV (pc := 89) (J' := jMd_find) (d' := d) (o := 0) (ci := 13) (N := 93) (T := cT13) (As := [vI (w 27 p1.toNat)]) d_Md_judge_89 ml_Md_484 cM_0.1 cM_0.2 (by decide) rfl rfl (Nat.le_of_ble_eq_true rfl) (Nat.le_refl _) rfl (Cal.weak h (fun o w1 h => ?_))
    rcases rIt_of h with ⟨x2, rfl, h⟩ | ⟨b, rfl, h⟩
    rotate_left
    · exact h
    refine v_ifeq (pc := 92) (tgt := 102) d_Md_judge_92 (by decide) (fun c => ?_) (fun c => ?_)
    · replace h := h.1 c
      refine v_aload_n (pc := 102) d_Md_judge_102 rfl (.tail _ (.tail _ (.head _))) ?_
      refine v_iconst (pc := 103) d_Md_judge_103 (by decide) ?_
      refine v_aload_n (pc := 104) d_Md_judge_104 rfl (.tail _ (.tail _ (.head _))) ?_
      refine v_getr (C := "") (pc := 105) (r := 27) d_Md_judge_105 fl_Md_219 cM_0.1 cM_0.2 (Or.inr ⟨_, rfl⟩) rM_0_33 ?_
      refine v_iload_n (pc := 108) d_Md_judge_108 rfl (.tail _ (.tail _ (.tail _ (.head _)))) ?_
      refine v_iald (pc := 109) (x := (w1 27 p1.toNat)) d_Md_judge_109 cM_27.1 cM_27.2 rfl h.1 ?_
      replace h := h.2
      refine v_callV (pc := 110) (J' := jMd_blame) (d' := d) (o := 0) (ci := 13) (N := 93) (T := cT13) (As := [vI 4, vI (w1 27 p1.toNat)]) d_Md_judge_110 ml_Md_481 cM_0.1 cM_0.2 (by decide) rfl rfl (Nat.le_of_ble_eq_true rfl) (Nat.le_refl _) rfl (Cal.weak h (fun o w3 h => ?_))
      rcases rVt_of h with ⟨rfl, h⟩ | ⟨b, rfl, h⟩
      rotate_left
      · exact h
      refine v_iconst (pc := 113) d_Md_judge_113 (by decide) ?_
      exact v_iret (pc := 114) d_Md_judge_114 rfl h
    · replace h := h.2 c
      refine v_aload_n (pc := 95) d_Md_judge_95 rfl (.tail _ (.tail _ (.head _))) ?_
      refine v_geti (pc := 96) (x := (w1 0 51)) d_Md_judge_96 fl_Md_466 cM_0.1 cM_0.2 (Or.inl rfl) rfl ?_
      refine v_ifne (pc := 99) (tgt := 115) d_Md_judge_99 (by decide) (fun c => ?_) (fun c => ?_)
      · replace h := h.1 c
        refine v_aload_n (pc := 115) d_Md_judge_115 rfl (.tail _ (.tail _ (.head _))) ?_
        refine v_getr (C := "") (pc := 116) (r := 32) d_Md_judge_116 fl_Md_234 cM_0.1 cM_0.2 (Or.inr ⟨_, rfl⟩) rM_0_38 ?_
        refine v_iload_n (pc := 119) d_Md_judge_119 rfl (.tail _ (.tail _ (.tail _ (.head _)))) ?_
        refine v_aload_n (pc := 120) d_Md_judge_120 rfl (.tail _ (.tail _ (.head _))) ?_
        refine v_geti (pc := 121) (x := (w1 0 51)) d_Md_judge_121 fl_Md_466 cM_0.1 cM_0.2 (Or.inl rfl) rfl ?_
        refine v_iast (pc := 124) d_Md_judge_124 cM_32.1 cM_32.2 (aM_32 _) h.1 ?_
        replace h := h.2
        refine v_aload_n (pc := 125) d_Md_judge_125 rfl (.tail _ (.tail _ (.head _))) ?_
        refine v_getr (C := "") (pc := 126) (r := 33) d_Md_judge_126 fl_Md_237 cM_0.1 cM_0.2 (Or.inr ⟨_, rfl⟩) rM_0_39 ?_
        refine v_iload_n (pc := 129) d_Md_judge_129 rfl (.tail _ (.tail _ (.tail _ (.head _)))) ?_
        refine v_aload_n (pc := 130) d_Md_judge_130 rfl (.tail _ (.tail _ (.head _))) ?_
        refine v_geti (pc := 131) (x := (w1 0 52)) d_Md_judge_131 fl_Md_472 cM_0.1 cM_0.2 (Or.inl rfl) rfl ?_
        refine v_iast (pc := 134) d_Md_judge_134 cM_33.1 cM_33.2 (aM_33 _) h.1 ?_
        replace h := h.2
        refine v_aload_n (pc := 135) d_Md_judge_135 rfl (.tail _ (.tail _ (.head _))) ?_
        refine v_geti (pc := 136) (x := (w1 0 53)) d_Md_judge_136 fl_Md_475 cM_0.1 cM_0.2 (Or.inl rfl) rfl ?_
        exact v_iret (pc := 139) d_Md_judge_139 rfl h
      · replace h := h.2 c
        refine v_aload_n (pc := 102) d_Md_judge_102 rfl (.tail _ (.tail _ (.head _))) ?_
        refine v_iconst (pc := 103) d_Md_judge_103 (by decide) ?_
        refine v_aload_n (pc := 104) d_Md_judge_104 rfl (.tail _ (.tail _ (.head _))) ?_
        refine v_getr (C := "") (pc := 105) (r := 27) d_Md_judge_105 fl_Md_219 cM_0.1 cM_0.2 (Or.inr ⟨_, rfl⟩) rM_0_33 ?_
        refine v_iload_n (pc := 108) d_Md_judge_108 rfl (.tail _ (.tail _ (.tail _ (.head _)))) ?_
        refine v_iald (pc := 109) (x := (w1 27 p1.toNat)) d_Md_judge_109 cM_27.1 cM_27.2 rfl h.1 ?_
        replace h := h.2
        refine v_callV (pc := 110) (J' := jMd_blame) (d' := d) (o := 0) (ci := 13) (N := 93) (T := cT13) (As := [vI 4, vI (w1 27 p1.toNat)]) d_Md_judge_110 ml_Md_481 cM_0.1 cM_0.2 (by decide) rfl rfl (Nat.le_of_ble_eq_true rfl) (Nat.le_refl _) rfl (Cal.weak h (fun o w4 h => ?_))
        rcases rVt_of h with ⟨rfl, h⟩ | ⟨b, rfl, h⟩
        rotate_left
        · exact h
        refine v_iconst (pc := 113) d_Md_judge_113 (by decide) ?_
        exact v_iret (pc := 114) d_Md_judge_114 rfl h
  · replace h := h.2.2.2.2.1 c
    refine v_iload_n (pc := 140) d_Md_judge_140 rfl (.tail _ (.tail _ (.tail _ (.tail _ (.head _))))) ?_
    refine v_ifeq (pc := 141) (tgt := 164) d_Md_judge_141 (by decide) (fun c => ?_) (fun c => ?_)
    · replace h := h.1 c
      refine v_aload_n (pc := 164) d_Md_judge_164 rfl (.tail _ (.tail _ (.head _))) ?_
      refine v_iconst (pc := 165) d_Md_judge_165 (by decide) ?_
      refine v_aload_n (pc := 166) d_Md_judge_166 rfl (.tail _ (.tail _ (.head _))) ?_
      refine v_getr (C := "") (pc := 167) (r := 27) d_Md_judge_167 fl_Md_219 cM_0.1 cM_0.2 (Or.inr ⟨_, rfl⟩) rM_0_33 ?_
      refine v_iload_n (pc := 170) d_Md_judge_170 rfl (.tail _ (.tail _ (.tail _ (.head _)))) ?_
      refine v_iald (pc := 171) (x := (w 27 p1.toNat)) d_Md_judge_171 cM_27.1 cM_27.2 rfl h.1 ?_
      replace h := h.2
      refine v_callV (pc := 172) (J' := jMd_blame) (d' := d) (o := 0) (ci := 13) (N := 93) (T := cT13) (As := [vI 4, vI (w 27 p1.toNat)]) d_Md_judge_172 ml_Md_481 cM_0.1 cM_0.2 (by decide) rfl rfl (Nat.le_of_ble_eq_true rfl) (Nat.le_refl _) rfl (Cal.weak h (fun o w5 h => ?_))
      rcases rVt_of h with ⟨rfl, h⟩ | ⟨b, rfl, h⟩
      rotate_left
      · exact h
      refine v_iconst (pc := 175) d_Md_judge_175 (by decide) ?_
      exact v_iret (pc := 176) d_Md_judge_176 rfl h
    · replace h := h.2 c
      refine v_aload_n (pc := 144) d_Md_judge_144 rfl (.tail _ (.tail _ (.head _))) ?_
      refine v_aload_n (pc := 145) d_Md_judge_145 rfl (.tail _ (.tail _ (.head _))) ?_
      refine v_getr (C := "") (pc := 146) (r := 27) d_Md_judge_146 fl_Md_219 cM_0.1 cM_0.2 (Or.inr ⟨_, rfl⟩) rM_0_33 ?_
      refine v_iload_n (pc := 149) d_Md_judge_149 rfl (.tail _ (.tail _ (.tail _ (.head _)))) ?_
      refine v_iald (pc := 150) (x := (w 27 p1.toNat)) d_Md_judge_150 cM_27.1 cM_27.2 rfl h.1 ?_
      replace h := h.2
      refine v_callV (pc := 151) (J' := jMd_find) (d' := d) (o := 0) (ci := 13) (N := 93) (T := cT13) (As := [vI (w 27 p1.toNat)]) d_Md_judge_151 ml_Md_484 cM_0.1 cM_0.2 (by decide) rfl rfl (Nat.le_of_ble_eq_true rfl) (Nat.le_refl _) rfl (Cal.weak h (fun o w6 h => ?_))
      rcases rIt_of h with ⟨x7, rfl, h⟩ | ⟨b, rfl, h⟩
      rotate_left
      · exact h
      refine v_ifeq (pc := 154) (tgt := 164) d_Md_judge_154 (by decide) (fun c => ?_) (fun c => ?_)
      · replace h := h.1 c
        refine v_aload_n (pc := 164) d_Md_judge_164 rfl (.tail _ (.tail _ (.head _))) ?_
        refine v_iconst (pc := 165) d_Md_judge_165 (by decide) ?_
        refine v_aload_n (pc := 166) d_Md_judge_166 rfl (.tail _ (.tail _ (.head _))) ?_
        refine v_getr (C := "") (pc := 167) (r := 27) d_Md_judge_167 fl_Md_219 cM_0.1 cM_0.2 (Or.inr ⟨_, rfl⟩) rM_0_33 ?_
        refine v_iload_n (pc := 170) d_Md_judge_170 rfl (.tail _ (.tail _ (.tail _ (.head _)))) ?_
        refine v_iald (pc := 171) (x := (w6 27 p1.toNat)) d_Md_judge_171 cM_27.1 cM_27.2 rfl h.1 ?_
        replace h := h.2
        refine v_callV (pc := 172) (J' := jMd_blame) (d' := d) (o := 0) (ci := 13) (N := 93) (T := cT13) (As := [vI 4, vI (w6 27 p1.toNat)]) d_Md_judge_172 ml_Md_481 cM_0.1 cM_0.2 (by decide) rfl rfl (Nat.le_of_ble_eq_true rfl) (Nat.le_refl _) rfl (Cal.weak h (fun o w8 h => ?_))
        rcases rVt_of h with ⟨rfl, h⟩ | ⟨b, rfl, h⟩
        rotate_left
        · exact h
        refine v_iconst (pc := 175) d_Md_judge_175 (by decide) ?_
        exact v_iret (pc := 176) d_Md_judge_176 rfl h
      · replace h := h.2 c
        refine v_aload_n (pc := 157) d_Md_judge_157 rfl (.tail _ (.tail _ (.head _))) ?_
        refine v_geti (pc := 158) (x := (w6 0 51)) d_Md_judge_158 fl_Md_466 cM_0.1 cM_0.2 (Or.inl rfl) rfl ?_
        refine v_ifeq (pc := 161) (tgt := 177) d_Md_judge_161 (by decide) (fun c => ?_) (fun c => ?_)
        · replace h := h.1 c
          refine v_aload_n (pc := 177) d_Md_judge_177 rfl (.tail _ (.tail _ (.head _))) ?_
          refine v_getr (C := "") (pc := 178) (r := 33) d_Md_judge_178 fl_Md_237 cM_0.1 cM_0.2 (Or.inr ⟨_, rfl⟩) rM_0_39 ?_
          refine v_iload_n (pc := 181) d_Md_judge_181 rfl (.tail _ (.tail _ (.tail _ (.head _)))) ?_
          refine v_aload_n (pc := 182) d_Md_judge_182 rfl (.tail _ (.tail _ (.head _))) ?_
          refine v_geti (pc := 183) (x := (w6 0 52)) d_Md_judge_183 fl_Md_472 cM_0.1 cM_0.2 (Or.inl rfl) rfl ?_
          refine v_iast (pc := 186) d_Md_judge_186 cM_33.1 cM_33.2 (aM_33 _) h.1 ?_
          replace h := h.2
          refine v_iconst (pc := 187) d_Md_judge_187 (by decide) ?_
          exact v_iret (pc := 188) d_Md_judge_188 rfl h
        · replace h := h.2 c
          refine v_aload_n (pc := 164) d_Md_judge_164 rfl (.tail _ (.tail _ (.head _))) ?_
          refine v_iconst (pc := 165) d_Md_judge_165 (by decide) ?_
          refine v_aload_n (pc := 166) d_Md_judge_166 rfl (.tail _ (.tail _ (.head _))) ?_
          refine v_getr (C := "") (pc := 167) (r := 27) d_Md_judge_167 fl_Md_219 cM_0.1 cM_0.2 (Or.inr ⟨_, rfl⟩) rM_0_33 ?_
          refine v_iload_n (pc := 170) d_Md_judge_170 rfl (.tail _ (.tail _ (.tail _ (.head _)))) ?_
          refine v_iald (pc := 171) (x := (w6 27 p1.toNat)) d_Md_judge_171 cM_27.1 cM_27.2 rfl h.1 ?_
          replace h := h.2
          refine v_callV (pc := 172) (J' := jMd_blame) (d' := d) (o := 0) (ci := 13) (N := 93) (T := cT13) (As := [vI 4, vI (w6 27 p1.toNat)]) d_Md_judge_172 ml_Md_481 cM_0.1 cM_0.2 (by decide) rfl rfl (Nat.le_of_ble_eq_true rfl) (Nat.le_refl _) rfl (Cal.weak h (fun o w9 h => ?_))
          rcases rVt_of h with ⟨rfl, h⟩ | ⟨b, rfl, h⟩
          rotate_left
          · exact h
          refine v_iconst (pc := 175) d_Md_judge_175 (by decide) ?_
          exact v_iret (pc := 176) d_Md_judge_176 rfl h
  · replace h := h.2.2.2.2.2.1 c
    refine v_aload_n (pc := 189) d_Md_judge_189 rfl (.tail _ (.tail _ (.head _))) ?_
    refine v_aload_n (pc := 190) d_Md_judge_190 rfl (.tail _ (.tail _ (.head _))) ?_
    refine v_getr (C := "") (pc := 191) (r := 27) d_Md_judge_191 fl_Md_219 cM_0.1 cM_0.2 (Or.inr ⟨_, rfl⟩) rM_0_33 ?_
    refine v_iload_n (pc := 194) d_Md_judge_194 rfl (.tail _ (.tail _ (.tail _ (.head _)))) ?_
    refine v_iald (pc := 195) (x := (w 27 p1.toNat)) d_Md_judge_195 cM_27.1 cM_27.2 rfl h.1 ?_
    replace h := h.2
    refine v_callV (pc := 196) (J' := jMd_find) (d' := d) (o := 0) (ci := 13) (N := 93) (T := cT13) (As := [vI (w 27 p1.toNat)]) d_Md_judge_196 ml_Md_484 cM_0.1 cM_0.2 (by decide) rfl rfl (Nat.le_of_ble_eq_true rfl) (Nat.le_refl _) rfl (Cal.weak h (fun o w10 h => ?_))
    rcases rIt_of h with ⟨x11, rfl, h⟩ | ⟨b, rfl, h⟩
    rotate_left
    · exact h
    refine v_ifeq (pc := 199) (tgt := 210) d_Md_judge_199 (by decide) (fun c => ?_) (fun c => ?_)
    · replace h := h.1 c
      refine v_aload_n (pc := 210) d_Md_judge_210 rfl (.tail _ (.tail _ (.head _))) ?_
      refine v_iconst (pc := 211) d_Md_judge_211 (by decide) ?_
      refine v_aload_n (pc := 212) d_Md_judge_212 rfl (.tail _ (.tail _ (.head _))) ?_
      refine v_getr (C := "") (pc := 213) (r := 27) d_Md_judge_213 fl_Md_219 cM_0.1 cM_0.2 (Or.inr ⟨_, rfl⟩) rM_0_33 ?_
      refine v_iload_n (pc := 216) d_Md_judge_216 rfl (.tail _ (.tail _ (.tail _ (.head _)))) ?_
      refine v_iald (pc := 217) (x := (w10 27 p1.toNat)) d_Md_judge_217 cM_27.1 cM_27.2 rfl h.1 ?_
      replace h := h.2
      refine v_callV (pc := 218) (J' := jMd_blame) (d' := d) (o := 0) (ci := 13) (N := 93) (T := cT13) (As := [vI 4, vI (w10 27 p1.toNat)]) d_Md_judge_218 ml_Md_481 cM_0.1 cM_0.2 (by decide) rfl rfl (Nat.le_of_ble_eq_true rfl) (Nat.le_refl _) rfl (Cal.weak h (fun o w12 h => ?_))
      rcases rVt_of h with ⟨rfl, h⟩ | ⟨b, rfl, h⟩
      rotate_left
      · exact h
      refine v_iconst (pc := 221) d_Md_judge_221 (by decide) ?_
      exact v_iret (pc := 222) d_Md_judge_222 rfl h
    · replace h := h.2 c
      refine v_aload_n (pc := 202) d_Md_judge_202 rfl (.tail _ (.tail _ (.head _))) ?_
      refine v_geti (pc := 203) (x := (w10 0 51)) d_Md_judge_203 fl_Md_466 cM_0.1 cM_0.2 (Or.inl rfl) rfl ?_
      refine v_iconst (pc := 206) d_Md_judge_206 (by decide) ?_
      refine v_icmpeq (pc := 207) (tgt := 223) d_Md_judge_207 (by decide) (fun c => ?_) (fun c => ?_)
      · replace h := h.1 c
        refine v_aload_n (pc := 223) d_Md_judge_223 rfl (.tail _ (.tail _ (.head _))) ?_
        refine v_getr (C := "") (pc := 224) (r := 33) d_Md_judge_224 fl_Md_237 cM_0.1 cM_0.2 (Or.inr ⟨_, rfl⟩) rM_0_39 ?_
        refine v_iload_n (pc := 227) d_Md_judge_227 rfl (.tail _ (.tail _ (.tail _ (.head _)))) ?_
        refine v_aload_n (pc := 228) d_Md_judge_228 rfl (.tail _ (.tail _ (.head _))) ?_
        refine v_geti (pc := 229) (x := (w10 0 52)) d_Md_judge_229 fl_Md_472 cM_0.1 cM_0.2 (Or.inl rfl) rfl ?_
        refine v_iast (pc := 232) d_Md_judge_232 cM_33.1 cM_33.2 (aM_33 _) h.1 ?_
        replace h := h.2
        refine v_iconst (pc := 233) d_Md_judge_233 (by decide) ?_
        exact v_iret (pc := 234) d_Md_judge_234 rfl h
      · replace h := h.2 c
        refine v_aload_n (pc := 210) d_Md_judge_210 rfl (.tail _ (.tail _ (.head _))) ?_
        refine v_iconst (pc := 211) d_Md_judge_211 (by decide) ?_
        refine v_aload_n (pc := 212) d_Md_judge_212 rfl (.tail _ (.tail _ (.head _))) ?_
        refine v_getr (C := "") (pc := 213) (r := 27) d_Md_judge_213 fl_Md_219 cM_0.1 cM_0.2 (Or.inr ⟨_, rfl⟩) rM_0_33 ?_
        refine v_iload_n (pc := 216) d_Md_judge_216 rfl (.tail _ (.tail _ (.tail _ (.head _)))) ?_
        refine v_iald (pc := 217) (x := (w10 27 p1.toNat)) d_Md_judge_217 cM_27.1 cM_27.2 rfl h.1 ?_
        replace h := h.2
        refine v_callV (pc := 218) (J' := jMd_blame) (d' := d) (o := 0) (ci := 13) (N := 93) (T := cT13) (As := [vI 4, vI (w10 27 p1.toNat)]) d_Md_judge_218 ml_Md_481 cM_0.1 cM_0.2 (by decide) rfl rfl (Nat.le_of_ble_eq_true rfl) (Nat.le_refl _) rfl (Cal.weak h (fun o w13 h => ?_))
        rcases rVt_of h with ⟨rfl, h⟩ | ⟨b, rfl, h⟩
        rotate_left
        · exact h
        refine v_iconst (pc := 221) d_Md_judge_221 (by decide) ?_
        exact v_iret (pc := 222) d_Md_judge_222 rfl h
  · replace h := h.2.2.2.2.2.2.1 c
    refine v_iconst (pc := 346) d_Md_judge_346 (by decide) ?_
    exact v_iret (pc := 347) d_Md_judge_347 rfl h
  · replace h := h.2.2.2.2.2.2.2.1 c
    refine v_aload_n (pc := 235) d_Md_judge_235 rfl (.tail _ (.tail _ (.head _))) ?_
    refine v_iload_n (pc := 236) d_Md_judge_236 rfl (.tail _ (.head _)) ?_
    refine v_aload_n (pc := 237) d_Md_judge_237 rfl (.tail _ (.tail _ (.head _))) ?_
    refine v_iload_n (pc := 238) d_Md_judge_238 rfl (.tail _ (.head _)) ?_
    refine v_iload_n (pc := 239) d_Md_judge_239 rfl (.tail _ (.tail _ (.tail _ (.tail _ (.head _))))) ?_
    refine v_callS (pc := 240) (J' := jMd_judge) (d' := d) (As := [vA 0, vI (w 29 p1.toNat), vI p2]) d_Md_judge_240 ml_Md_487 rfl (Nat.le_of_ble_eq_true rfl) (Nat.le_refl _) rfl (Cal.weak h (fun o w14 h => ?_))
    rcases rIt_of h with ⟨x15, rfl, h⟩ | ⟨b, rfl, h⟩
    rotate_left
    · exact h
    refine v_iconst (pc := 243) d_Md_judge_243 (by decide) ?_
    refine v_callV (pc := 244) (J' := jMd_mustBe) (d' := d) (o := 0) (ci := 13) (N := 93) (T := cT13) (As := [vI (w 29 p1.toNat), vI x15, vI 0]) d_Md_judge_244 ml_Md_491 cM_0.1 cM_0.2 (by decide) rfl rfl (Nat.le_of_ble_eq_true rfl) (Nat.le_refl _) rfl (Cal.weak h (fun o w16 h => ?_))
    rcases rVt_of h with ⟨rfl, h⟩ | ⟨b, rfl, h⟩
    rotate_left
    · exact h
    refine v_iconst (pc := 247) d_Md_judge_247 (by decide) ?_
    exact v_iret (pc := 248) d_Md_judge_248 rfl h
  · replace h := h.2.2.2.2.2.2.2.2.1 c
    refine v_aload_n (pc := 249) d_Md_judge_249 rfl (.tail _ (.tail _ (.head _))) ?_
    refine v_iload_n (pc := 250) d_Md_judge_250 rfl (.tail _ (.head _)) ?_
    refine v_aload_n (pc := 251) d_Md_judge_251 rfl (.tail _ (.tail _ (.head _))) ?_
    refine v_iload_n (pc := 252) d_Md_judge_252 rfl (.tail _ (.head _)) ?_
    refine v_iload_n (pc := 253) d_Md_judge_253 rfl (.tail _ (.tail _ (.tail _ (.tail _ (.head _))))) ?_
    refine v_callS (pc := 254) (J' := jMd_judge) (d' := d) (As := [vA 0, vI (w 29 p1.toNat), vI p2]) d_Md_judge_254 ml_Md_487 rfl (Nat.le_of_ble_eq_true rfl) (Nat.le_refl _) rfl (Cal.weak h (fun o w17 h => ?_))
    rcases rIt_of h with ⟨x18, rfl, h⟩ | ⟨b, rfl, h⟩
    rotate_left
    · exact h
    refine v_iconst (pc := 257) d_Md_judge_257 (by decide) ?_
    refine v_callV (pc := 258) (J' := jMd_mustBe) (d' := d) (o := 0) (ci := 13) (N := 93) (T := cT13) (As := [vI (w 29 p1.toNat), vI x18, vI 1]) d_Md_judge_258 ml_Md_491 cM_0.1 cM_0.2 (by decide) rfl rfl (Nat.le_of_ble_eq_true rfl) (Nat.le_refl _) rfl (Cal.weak h (fun o w19 h => ?_))
    rcases rVt_of h with ⟨rfl, h⟩ | ⟨b, rfl, h⟩
    rotate_left
    · exact h
    refine v_aload_n (pc := 261) d_Md_judge_261 rfl (.tail _ (.tail _ (.head _))) ?_
    refine v_iload (pc := 262) d_Md_judge_262 (.head _) ?_
    refine v_iload_n (pc := 264) d_Md_judge_264 rfl (.tail _ (.tail _ (.tail _ (.tail _ (.head _))))) ?_
    refine v_callS (pc := 265) (J' := jMd_judge) (d' := d) (As := [vA 0, vI (w 30 p1.toNat), vI p2]) d_Md_judge_265 ml_Md_487 rfl (Nat.le_of_ble_eq_true rfl) (Nat.le_refl _) rfl (Cal.weak h (fun o w20 h => ?_))
    rcases rIt_of h with ⟨x21, rfl, h⟩ | ⟨b, rfl, h⟩
    rotate_left
    · exact h
    refine v_istore (pc := 268) (ls' := [(5, vI x21), (4, vI (w 30 p1.toNat)), (3, vI (w 29 p1.toNat)), (0, vA 0), (1, vI p1), (2, vI p2)]) d_Md_judge_268 (by decide) rfl ?_
    refine v_aload_n (pc := 270) d_Md_judge_270 rfl (.tail _ (.tail _ (.tail _ (.head _)))) ?_
    refine v_aload_n (pc := 271) d_Md_judge_271 rfl (.tail _ (.tail _ (.tail _ (.head _)))) ?_
    refine v_getr (C := "") (pc := 272) (r := 31) d_Md_judge_272 fl_Md_231 cM_0.1 cM_0.2 (Or.inr ⟨_, rfl⟩) rM_0_37 ?_
    refine v_iload_n (pc := 275) d_Md_judge_275 rfl (.tail _ (.tail _ (.tail _ (.tail _ (.head _))))) ?_
    refine v_iald (pc := 276) (x := (w20 31 p1.toNat)) d_Md_judge_276 cM_31.1 cM_31.2 rfl h.1 ?_
    replace h := h.2
    refine v_iload_n (pc := 277) d_Md_judge_277 rfl (.tail _ (.tail _ (.tail _ (.tail _ (.tail _ (.head _)))))) ?_
    refine v_callS (pc := 278) (J' := jMd_judge) (d' := d) (As := [vA 0, vI (w20 31 p1.toNat), vI p2]) d_Md_judge_278 ml_Md_487 rfl (Nat.le_of_ble_eq_true rfl) (Nat.le_refl _) rfl (Cal.weak h (fun o w22 h => ?_))
    rcases rIt_of h with ⟨x23, rfl, h⟩ | ⟨b, rfl, h⟩
    rotate_left
    · exact h
    refine v_istore (pc := 281) (ls' := [(6, vI x23), (5, vI x21), (4, vI (w 30 p1.toNat)), (3, vI (w 29 p1.toNat)), (0, vA 0), (1, vI p1), (2, vI p2)]) d_Md_judge_281 (by decide) rfl ?_
    refine v_aload_n (pc := 283) d_Md_judge_283 rfl (.tail _ (.tail _ (.tail _ (.tail _ (.head _))))) ?_
    refine v_aload_n (pc := 284) d_Md_judge_284 rfl (.tail _ (.tail _ (.tail _ (.tail _ (.head _))))) ?_
    refine v_getr (C := "") (pc := 285) (r := 31) d_Md_judge_285 fl_Md_231 cM_0.1 cM_0.2 (Or.inr ⟨_, rfl⟩) rM_0_37 ?_
    refine v_iload_n (pc := 288) d_Md_judge_288 rfl (.tail _ (.tail _ (.tail _ (.tail _ (.tail _ (.head _)))))) ?_
    refine v_iald (pc := 289) (x := (w22 31 p1.toNat)) d_Md_judge_289 cM_31.1 cM_31.2 rfl h.1 ?_
    replace h := h.2
    refine v_iload (pc := 290) d_Md_judge_290 (.head _) ?_
    refine v_iload (pc := 292) d_Md_judge_292 (.tail _ (.head _)) ?_
    refine v_callV (pc := 294) (J' := jMd_mustBe) (d' := d) (o := 0) (ci := 13) (N := 93) (T := cT13) (As := [vI (w22 31 p1.toNat), vI x23, vI x21]) d_Md_judge_294 ml_Md_491 cM_0.1 cM_0.2 (by decide) rfl rfl (Nat.le_of_ble_eq_true rfl) (Nat.le_refl _) rfl (Cal.weak h (fun o w24 h => ?_))
    rcases rVt_of h with ⟨rfl, h⟩ | ⟨b, rfl, h⟩
    rotate_left
    · exact h
    refine v_iload (pc := 297) d_Md_judge_297 (.tail _ (.head _)) ?_
    refine v_iconst (pc := 299) d_Md_judge_299 (by decide) ?_
    refine v_icmpne (pc := 300) (tgt := 308) d_Md_judge_300 (by decide) (fun c => ?_) (fun c => ?_)
    · replace h := h.1 c
      refine v_iload (pc := 308) d_Md_judge_308 (.tail _ (.head _)) ?_
      exact v_iret (pc := 310) d_Md_judge_310 rfl h
    · replace h := h.2 c
      refine v_iload (pc := 303) d_Md_judge_303 (.head _) ?_
      refine v_goto (pc := 305) (tgt := 310) d_Md_judge_305 (by decide) ?_
      exact v_iret (pc := 310) d_Md_judge_310 rfl h
  · replace h := h.2.2.2.2.2.2.2.2.2.1 c
    refine v_aload_n (pc := 311) d_Md_judge_311 rfl (.tail _ (.tail _ (.head _))) ?_
    refine v_iload_n (pc := 312) d_Md_judge_312 rfl (.tail _ (.head _)) ?_
    refine v_aload_n (pc := 313) d_Md_judge_313 rfl (.tail _ (.tail _ (.head _))) ?_
    refine v_iload_n (pc := 314) d_Md_judge_314 rfl (.tail _ (.head _)) ?_
    refine v_iload_n (pc := 315) d_Md_judge_315 rfl (.tail _ (.tail _ (.tail _ (.tail _ (.head _))))) ?_
    refine v_callS (pc := 316) (J' := jMd_judge) (d' := d) (As := [vA 0, vI (w 29 p1.toNat), vI p2]) d_Md_judge_316 ml_Md_487 rfl (Nat.le_of_ble_eq_true rfl) (Nat.le_refl _) rfl (Cal.weak h (fun o w25 h => ?_))
    rcases rIt_of h with ⟨x26, rfl, h⟩ | ⟨b, rfl, h⟩
    rotate_left
    · exact h
    refine v_iconst (pc := 319) d_Md_judge_319 (by decide) ?_
    refine v_callV (pc := 320) (J' := jMd_mustBe) (d' := d) (o := 0) (ci := 13) (N := 93) (T := cT13) (As := [vI (w 29 p1.toNat), vI x26, vI 0]) d_Md_judge_320 ml_Md_491 cM_0.1 cM_0.2 (by decide) rfl rfl (Nat.le_of_ble_eq_true rfl) (Nat.le_refl _) rfl (Cal.weak h (fun o w27 h => ?_))
    rcases rVt_of h with ⟨rfl, h⟩ | ⟨b, rfl, h⟩
    rotate_left
    · exact h
    refine v_iconst (pc := 323) d_Md_judge_323 (by decide) ?_
    exact v_iret (pc := 324) d_Md_judge_324 rfl h
  · replace h := h.2.2.2.2.2.2.2.2.2.2.1 c
    refine v_aload_n (pc := 325) d_Md_judge_325 rfl (.tail _ (.tail _ (.head _))) ?_
    refine v_iload_n (pc := 326) d_Md_judge_326 rfl (.tail _ (.head _)) ?_
    refine v_aload_n (pc := 327) d_Md_judge_327 rfl (.tail _ (.tail _ (.head _))) ?_
    refine v_iload_n (pc := 328) d_Md_judge_328 rfl (.tail _ (.head _)) ?_
    refine v_iload_n (pc := 329) d_Md_judge_329 rfl (.tail _ (.tail _ (.tail _ (.tail _ (.head _))))) ?_
    refine v_callS (pc := 330) (J' := jMd_judge) (d' := d) (As := [vA 0, vI (w 29 p1.toNat), vI p2]) d_Md_judge_330 ml_Md_487 rfl (Nat.le_of_ble_eq_true rfl) (Nat.le_refl _) rfl (Cal.weak h (fun o w28 h => ?_))
    rcases rIt_of h with ⟨x29, rfl, h⟩ | ⟨b, rfl, h⟩
    rotate_left
    · exact h
    refine v_iconst (pc := 333) d_Md_judge_333 (by decide) ?_
    refine v_callV (pc := 334) (J' := jMd_mustBe) (d' := d) (o := 0) (ci := 13) (N := 93) (T := cT13) (As := [vI (w 29 p1.toNat), vI x29, vI 1]) d_Md_judge_334 ml_Md_491 cM_0.1 cM_0.2 (by decide) rfl rfl (Nat.le_of_ble_eq_true rfl) (Nat.le_refl _) rfl (Cal.weak h (fun o w30 h => ?_))
    rcases rVt_of h with ⟨rfl, h⟩ | ⟨b, rfl, h⟩
    rotate_left
    · exact h
    refine v_iconst (pc := 337) d_Md_judge_337 (by decide) ?_
    exact v_iret (pc := 338) d_Md_judge_338 rfl h
  · replace h := h.2.2.2.2.2.2.2.2.2.2.2 c
    refine v_aload_n (pc := 339) d_Md_judge_339 rfl (.tail _ (.tail _ (.head _))) ?_
    refine v_iload_n (pc := 340) d_Md_judge_340 rfl (.tail _ (.tail _ (.tail _ (.head _)))) ?_
    refine v_iload_n (pc := 341) d_Md_judge_341 rfl (.tail _ (.tail _ (.tail _ (.tail _ (.head _))))) ?_
    refine v_callS (pc := 342) (J' := jMd_judgeBinary) (d' := d) (As := [vA 0, vI p1, vI p2]) d_Md_judge_342 ml_Md_495 rfl (Nat.le_of_ble_eq_true rfl) (Nat.le_refl _) rfl (Cal.weak h (fun o w31 h => ?_))
    rcases rIt_of h with ⟨x32, rfl, h⟩ | ⟨b, rfl, h⟩
    rotate_left
    · exact h
    exact v_iret (pc := 345) d_Md_judge_345 rfl h
theorem d_Md_isSign_0 : decode jMd_isSign.cc 0 = .ok (.aload_n 0, 1) := by decide +kernel
theorem d_Md_isSign_1 : decode jMd_isSign.cc 1 = .ok (.aload_n 0, 1) := by decide +kernel
theorem d_Md_isSign_2 : decode jMd_isSign.cc 2 = .ok (.getfield 37, 3) := by decide +kernel
theorem d_Md_isSign_5 : decode jMd_isSign.cc 5 = .ok (.iload_n 1, 1) := by decide +kernel
theorem d_Md_isSign_6 : decode jMd_isSign.cc 6 = .ok (.iaload, 1) := by decide +kernel
theorem d_Md_isSign_7 : decode jMd_isSign.cc 7 = .ok (.aload_n 0, 1) := by decide +kernel
theorem d_Md_isSign_8 : decode jMd_isSign.cc 8 = .ok (.getfield 40, 3) := by decide +kernel
theorem d_Md_isSign_11 : decode jMd_isSign.cc 11 = .ok (.iload_n 1, 1) := by decide +kernel
theorem d_Md_isSign_12 : decode jMd_isSign.cc 12 = .ok (.iaload, 1) := by decide +kernel
theorem d_Md_isSign_13 : decode jMd_isSign.cc 13 = .ok (.aload_n 2, 1) := by decide +kernel
theorem d_Md_isSign_14 : decode jMd_isSign.cc 14 = .ok (.invokevirtual 353, 3) := by decide +kernel
theorem d_Md_isSign_17 : decode jMd_isSign.cc 17 = .ok (.ireturn, 1) := by decide +kernel
set_option maxHeartbeats 4000000 in
theorem s_Md_isSign {g : Mg} {d : Nat} {K : Ou → Wd → Prop} {w : Wd} {p1 : Int} {p2 : Nat} (h : (0 ≤ p1 ∧ p1 < 4022) ∧ ((0 ≤ p1 ∧ p1 < 4022) ∧ (Cal g LM jMd_isText d [vA 0, vI (w 5 p1.toNat), vI (w 6 p1.toNat), vA p2] w (fun o w1 => rIt o (fun b => K (.inr b) w1) (fun x2 => (x2 = 0 ∨ x2 = 1) ∧ K (.inl (some (vI x2))) w1))))) : V g LM jMd_isSign (d + 1) K 0 [(0, vA 0), (1, vI p1), (2, vA p2)] [] w := by
  refine v_aload_n (pc := 0) d_Md_isSign_0 rfl (.head _) ?_
  refine v_aload_n (pc := 1) d_Md_isSign_1 rfl (.head _) ?_
  refine v_getr (C := "") (pc := 2) (r := 5) d_Md_isSign_2 fl_Md_37 cM_0.1 cM_0.2 (Or.inr ⟨_, rfl⟩) rM_0_7 ?_
  refine v_iload_n (pc := 5) d_Md_isSign_5 rfl (.tail _ (.head _)) ?_
  refine v_iald (pc := 6) (x := (w 5 p1.toNat)) d_Md_isSign_6 cM_5.1 cM_5.2 rfl h.1 ?_
  replace h := h.2
  refine v_aload_n (pc := 7) d_Md_isSign_7 rfl (.head _) ?_
  refine v_getr (C := "") (pc := 8) (r := 6) d_Md_isSign_8 fl_Md_40 cM_0.1 cM_0.2 (Or.inr ⟨_, rfl⟩) rM_0_8 ?_
  refine v_iload_n (pc := 11) d_Md_isSign_11 rfl (.tail _ (.head _)) ?_
  refine v_iald (pc := 12) (x := (w 6 p1.toNat)) d_Md_isSign_12 cM_6.1 cM_6.2 rfl h.1 ?_
  replace h := h.2
  refine v_aload_n (pc := 13) d_Md_isSign_13 rfl (.tail _ (.tail _ (.head _))) ?_
  refine v_callV (pc := 14) (J' := jMd_isText) (d' := d) (o := 0) (ci := 13) (N := 93) (T := cT13) (As := [vI (w 5 p1.toNat), vI (w 6 p1.toNat), vA p2]) d_Md_isSign_14 ml_Md_353 cM_0.1 cM_0.2 (by decide) rfl rfl (Nat.le_of_ble_eq_true rfl) (Nat.le_refl _) rfl (Cal.weak h (fun o w1 h => ?_))
  rcases rIt_of h with ⟨x2, rfl, h⟩ | ⟨b, rfl, h⟩
  rotate_left
  · exact h
  exact v_zret (pc := 17) d_Md_isSign_17 rfl h.1 h.2
theorem d_Md_judgeBinary_0 : decode jMd_judgeBinary.cc 0 = .ok (.aload_n 0, 1) := by decide +kernel
theorem d_Md_judgeBinary_1 : decode jMd_judgeBinary.cc 1 = .ok (.getfield 219, 3) := by decide +kernel
theorem d_Md_judgeBinary_4 : decode jMd_judgeBinary.cc 4 = .ok (.iload_n 1, 1) := by decide +kernel
theorem d_Md_judgeBinary_5 : decode jMd_judgeBinary.cc 5 = .ok (.iaload, 1) := by decide +kernel
theorem d_Md_judgeBinary_6 : decode jMd_judgeBinary.cc 6 = .ok (.istore_n 3, 1) := by decide +kernel
theorem d_Md_judgeBinary_7 : decode jMd_judgeBinary.cc 7 = .ok (.aload_n 0, 1) := by decide +kernel
theorem d_Md_judgeBinary_8 : decode jMd_judgeBinary.cc 8 = .ok (.aload_n 0, 1) := by decide +kernel
theorem d_Md_judgeBinary_9 : decode jMd_judgeBinary.cc 9 = .ok (.getfield 225, 3) := by decide +kernel
theorem d_Md_judgeBinary_12 : decode jMd_judgeBinary.cc 12 = .ok (.iload_n 1, 1) := by decide +kernel
theorem d_Md_judgeBinary_13 : decode jMd_judgeBinary.cc 13 = .ok (.iaload, 1) := by decide +kernel
theorem d_Md_judgeBinary_14 : decode jMd_judgeBinary.cc 14 = .ok (.iload_n 2, 1) := by decide +kernel
theorem d_Md_judgeBinary_15 : decode jMd_judgeBinary.cc 15 = .ok (.invokestatic 487, 3) := by decide +kernel
theorem d_Md_judgeBinary_18 : decode jMd_judgeBinary.cc 18 = .ok (.istore 4, 2) := by decide +kernel
theorem d_Md_judgeBinary_20 : decode jMd_judgeBinary.cc 20 = .ok (.aload_n 0, 1) := by decide +kernel
theorem d_Md_judgeBinary_21 : decode jMd_judgeBinary.cc 21 = .ok (.aload_n 0, 1) := by decide +kernel
theorem d_Md_judgeBinary_22 : decode jMd_judgeBinary.cc 22 = .ok (.getfield 228, 3) := by decide +kernel
theorem d_Md_judgeBinary_25 : decode jMd_judgeBinary.cc 25 = .ok (.iload_n 1, 1) := by decide +kernel
theorem d_Md_judgeBinary_26 : decode jMd_judgeBinary.cc 26 = .ok (.iaload, 1) := by decide +kernel
theorem d_Md_judgeBinary_27 : decode jMd_judgeBinary.cc 27 = .ok (.iload_n 2, 1) := by decide +kernel
theorem d_Md_judgeBinary_28 : decode jMd_judgeBinary.cc 28 = .ok (.invokestatic 487, 3) := by decide +kernel
theorem d_Md_judgeBinary_31 : decode jMd_judgeBinary.cc 31 = .ok (.istore 5, 2) := by decide +kernel
theorem d_Md_judgeBinary_33 : decode jMd_judgeBinary.cc 33 = .ok (.aload_n 0, 1) := by decide +kernel
theorem d_Md_judgeBinary_34 : decode jMd_judgeBinary.cc 34 = .ok (.iload_n 3, 1) := by decide +kernel
theorem d_Md_judgeBinary_35 : decode jMd_judgeBinary.cc 35 = .ok (.ldc 118, 2) := by decide +kernel
theorem d_Md_judgeBinary_37 : decode jMd_judgeBinary.cc 37 = .ok (.invokevirtual 498, 3) := by decide +kernel
theorem d_Md_judgeBinary_40 : decode jMd_judgeBinary.cc 40 = .ok (.ifCond .ne 13, 3) := by decide +kernel
theorem d_Md_judgeBinary_43 : decode jMd_judgeBinary.cc 43 = .ok (.aload_n 0, 1) := by decide +kernel
theorem d_Md_judgeBinary_44 : decode jMd_judgeBinary.cc 44 = .ok (.iload_n 3, 1) := by decide +kernel
theorem d_Md_judgeBinary_45 : decode jMd_judgeBinary.cc 45 = .ok (.ldc 120, 2) := by decide +kernel
theorem d_Md_judgeBinary_47 : decode jMd_judgeBinary.cc 47 = .ok (.invokevirtual 498, 3) := by decide +kernel
theorem d_Md_judgeBinary_50 : decode jMd_judgeBinary.cc 50 = .ok (.ifCond .eq 19, 3) := by decide +kernel
theorem d_Md_judgeBinary_53 : decode jMd_judgeBinary.cc 53 = .ok (.aload_n 0, 1) := by decide +kernel
theorem d_Md_judgeBinary_54 : decode jMd_judgeBinary.cc 54 = .ok (.aload_n 0, 1) := by decide +kernel
theorem d_Md_judgeBinary_55 : decode jMd_judgeBinary.cc 55 = .ok (.getfield 228, 3) := by decide +kernel
theorem d_Md_judgeBinary_58 : decode jMd_judgeBinary.cc 58 = .ok (.iload_n 1, 1) := by decide +kernel
theorem d_Md_judgeBinary_59 : decode jMd_judgeBinary.cc 59 = .ok (.iaload, 1) := by decide +kernel
theorem d_Md_judgeBinary_60 : decode jMd_judgeBinary.cc 60 = .ok (.iload 5, 2) := by decide +kernel
theorem d_Md_judgeBinary_62 : decode jMd_judgeBinary.cc 62 = .ok (.iload 4, 2) := by decide +kernel
theorem d_Md_judgeBinary_64 : decode jMd_judgeBinary.cc 64 = .ok (.invokevirtual 491, 3) := by decide +kernel
theorem d_Md_judgeBinary_67 : decode jMd_judgeBinary.cc 67 = .ok (.iconst 1, 1) := by decide +kernel
theorem d_Md_judgeBinary_68 : decode jMd_judgeBinary.cc 68 = .ok (.ireturn, 1) := by decide +kernel
theorem d_Md_judgeBinary_69 : decode jMd_judgeBinary.cc 69 = .ok (.aload_n 0, 1) := by decide +kernel
theorem d_Md_judgeBinary_70 : decode jMd_judgeBinary.cc 70 = .ok (.iload_n 3, 1) := by decide +kernel
theorem d_Md_judgeBinary_71 : decode jMd_judgeBinary.cc 71 = .ok (.ldc 126, 2) := by decide +kernel
theorem d_Md_judgeBinary_73 : decode jMd_judgeBinary.cc 73 = .ok (.invokevirtual 498, 3) := by decide +kernel
theorem d_Md_judgeBinary_76 : decode jMd_judgeBinary.cc 76 = .ok (.ifCond .ne 13, 3) := by decide +kernel
theorem d_Md_judgeBinary_79 : decode jMd_judgeBinary.cc 79 = .ok (.aload_n 0, 1) := by decide +kernel
theorem d_Md_judgeBinary_80 : decode jMd_judgeBinary.cc 80 = .ok (.iload_n 3, 1) := by decide +kernel
theorem d_Md_judgeBinary_81 : decode jMd_judgeBinary.cc 81 = .ok (.ldc 128, 2) := by decide +kernel
theorem d_Md_judgeBinary_83 : decode jMd_judgeBinary.cc 83 = .ok (.invokevirtual 498, 3) := by decide +kernel
theorem d_Md_judgeBinary_86 : decode jMd_judgeBinary.cc 86 = .ok (.ifCond .eq 7, 3) := by decide +kernel
theorem d_Md_judgeBinary_89 : decode jMd_judgeBinary.cc 89 = .ok (.iconst 1, 1) := by decide +kernel
theorem d_Md_judgeBinary_90 : decode jMd_judgeBinary.cc 90 = .ok (.goto 4, 3) := by decide +kernel
theorem d_Md_judgeBinary_93 : decode jMd_judgeBinary.cc 93 = .ok (.iconst 0, 1) := by decide +kernel
theorem d_Md_judgeBinary_94 : decode jMd_judgeBinary.cc 94 = .ok (.istore 6, 2) := by decide +kernel
theorem d_Md_judgeBinary_96 : decode jMd_judgeBinary.cc 96 = .ok (.iload 6, 2) := by decide +kernel
theorem d_Md_judgeBinary_98 : decode jMd_judgeBinary.cc 98 = .ok (.ifCond .eq 7, 3) := by decide +kernel
theorem d_Md_judgeBinary_101 : decode jMd_judgeBinary.cc 101 = .ok (.iconst 1, 1) := by decide +kernel
theorem d_Md_judgeBinary_102 : decode jMd_judgeBinary.cc 102 = .ok (.goto 4, 3) := by decide +kernel
theorem d_Md_judgeBinary_105 : decode jMd_judgeBinary.cc 105 = .ok (.iconst 0, 1) := by decide +kernel
theorem d_Md_judgeBinary_106 : decode jMd_judgeBinary.cc 106 = .ok (.istore 7, 2) := by decide +kernel
theorem d_Md_judgeBinary_108 : decode jMd_judgeBinary.cc 108 = .ok (.aload_n 0, 1) := by decide +kernel
theorem d_Md_judgeBinary_109 : decode jMd_judgeBinary.cc 109 = .ok (.aload_n 0, 1) := by decide +kernel
theorem d_Md_judgeBinary_110 : decode jMd_judgeBinary.cc 110 = .ok (.getfield 225, 3) := by decide +kernel
theorem d_Md_judgeBinary_113 : decode jMd_judgeBinary.cc 113 = .ok (.iload_n 1, 1) := by decide +kernel
theorem d_Md_judgeBinary_114 : decode jMd_judgeBinary.cc 114 = .ok (.iaload, 1) := by decide +kernel
theorem d_Md_judgeBinary_115 : decode jMd_judgeBinary.cc 115 = .ok (.iload 4, 2) := by decide +kernel
theorem d_Md_judgeBinary_117 : decode jMd_judgeBinary.cc 117 = .ok (.iload 7, 2) := by decide +kernel
theorem d_Md_judgeBinary_119 : decode jMd_judgeBinary.cc 119 = .ok (.invokevirtual 491, 3) := by decide +kernel
theorem d_Md_judgeBinary_122 : decode jMd_judgeBinary.cc 122 = .ok (.aload_n 0, 1) := by decide +kernel
theorem d_Md_judgeBinary_123 : decode jMd_judgeBinary.cc 123 = .ok (.aload_n 0, 1) := by decide +kernel
theorem d_Md_judgeBinary_124 : decode jMd_judgeBinary.cc 124 = .ok (.getfield 228, 3) := by decide +kernel
theorem d_Md_judgeBinary_127 : decode jMd_judgeBinary.cc 127 = .ok (.iload_n 1, 1) := by decide +kernel
theorem d_Md_judgeBinary_128 : decode jMd_judgeBinary.cc 128 = .ok (.iaload, 1) := by decide +kernel
theorem d_Md_judgeBinary_129 : decode jMd_judgeBinary.cc 129 = .ok (.iload 5, 2) := by decide +kernel
theorem d_Md_judgeBinary_131 : decode jMd_judgeBinary.cc 131 = .ok (.iload 7, 2) := by decide +kernel
theorem d_Md_judgeBinary_133 : decode jMd_judgeBinary.cc 133 = .ok (.invokevirtual 491, 3) := by decide +kernel
theorem d_Md_judgeBinary_136 : decode jMd_judgeBinary.cc 136 = .ok (.aload_n 0, 1) := by decide +kernel
theorem d_Md_judgeBinary_137 : decode jMd_judgeBinary.cc 137 = .ok (.iload_n 3, 1) := by decide +kernel
theorem d_Md_judgeBinary_138 : decode jMd_judgeBinary.cc 138 = .ok (.ldc 148, 2) := by decide +kernel
theorem d_Md_judgeBinary_140 : decode jMd_judgeBinary.cc 140 = .ok (.invokevirtual 498, 3) := by decide +kernel
theorem d_Md_judgeBinary_143 : decode jMd_judgeBinary.cc 143 = .ok (.ifCond .ne 33, 3) := by decide +kernel
theorem d_Md_judgeBinary_146 : decode jMd_judgeBinary.cc 146 = .ok (.aload_n 0, 1) := by decide +kernel
theorem d_Md_judgeBinary_147 : decode jMd_judgeBinary.cc 147 = .ok (.iload_n 3, 1) := by decide +kernel
theorem d_Md_judgeBinary_148 : decode jMd_judgeBinary.cc 148 = .ok (.ldc 122, 2) := by decide +kernel
theorem d_Md_judgeBinary_150 : decode jMd_judgeBinary.cc 150 = .ok (.invokevirtual 498, 3) := by decide +kernel
theorem d_Md_judgeBinary_153 : decode jMd_judgeBinary.cc 153 = .ok (.ifCond .ne 23, 3) := by decide +kernel
theorem d_Md_judgeBinary_156 : decode jMd_judgeBinary.cc 156 = .ok (.aload_n 0, 1) := by decide +kernel
theorem d_Md_judgeBinary_157 : decode jMd_judgeBinary.cc 157 = .ok (.iload_n 3, 1) := by decide +kernel
theorem d_Md_judgeBinary_158 : decode jMd_judgeBinary.cc 158 = .ok (.ldc 150, 2) := by decide +kernel
theorem d_Md_judgeBinary_160 : decode jMd_judgeBinary.cc 160 = .ok (.invokevirtual 498, 3) := by decide +kernel
theorem d_Md_judgeBinary_163 : decode jMd_judgeBinary.cc 163 = .ok (.ifCond .ne 13, 3) := by decide +kernel
theorem d_Md_judgeBinary_166 : decode jMd_judgeBinary.cc 166 = .ok (.aload_n 0, 1) := by decide +kernel
theorem d_Md_judgeBinary_167 : decode jMd_judgeBinary.cc 167 = .ok (.iload_n 3, 1) := by decide +kernel
theorem d_Md_judgeBinary_168 : decode jMd_judgeBinary.cc 168 = .ok (.ldc 124, 2) := by decide +kernel
theorem d_Md_judgeBinary_170 : decode jMd_judgeBinary.cc 170 = .ok (.invokevirtual 498, 3) := by decide +kernel
theorem d_Md_judgeBinary_173 : decode jMd_judgeBinary.cc 173 = .ok (.ifCond .eq 7, 3) := by decide +kernel
theorem d_Md_judgeBinary_176 : decode jMd_judgeBinary.cc 176 = .ok (.iconst 1, 1) := by decide +kernel
theorem d_Md_judgeBinary_177 : decode jMd_judgeBinary.cc 177 = .ok (.goto 4, 3) := by decide +kernel
theorem d_Md_judgeBinary_180 : decode jMd_judgeBinary.cc 180 = .ok (.iconst 0, 1) := by decide +kernel
theorem d_Md_judgeBinary_181 : decode jMd_judgeBinary.cc 181 = .ok (.istore 8, 2) := by decide +kernel
theorem d_Md_judgeBinary_183 : decode jMd_judgeBinary.cc 183 = .ok (.iload 6, 2) := by decide +kernel
theorem d_Md_judgeBinary_185 : decode jMd_judgeBinary.cc 185 = .ok (.ifCond .ne 8, 3) := by decide +kernel
theorem d_Md_judgeBinary_188 : decode jMd_judgeBinary.cc 188 = .ok (.iload 8, 2) := by decide +kernel
theorem d_Md_judgeBinary_190 : decode jMd_judgeBinary.cc 190 = .ok (.ifCond .eq 7, 3) := by decide +kernel
theorem d_Md_judgeBinary_193 : decode jMd_judgeBinary.cc 193 = .ok (.iconst 1, 1) := by decide +kernel
theorem d_Md_judgeBinary_194 : decode jMd_judgeBinary.cc 194 = .ok (.goto 4, 3) := by decide +kernel
theorem d_Md_judgeBinary_197 : decode jMd_judgeBinary.cc 197 = .ok (.iconst 0, 1) := by decide +kernel
theorem d_Md_judgeBinary_198 : decode jMd_judgeBinary.cc 198 = .ok (.ireturn, 1) := by decide +kernel
set_option maxHeartbeats 4000000 in
theorem s_Md_judgeBinary {g : Mg} {d : Nat} {K : Ou → Wd → Prop} {w : Wd} {p1 : Int} {p2 : Int} (h : (0 ≤ p1 ∧ p1 < 2000) ∧ ((0 ≤ p1 ∧ p1 < 2000) ∧ (Cal g LM jMd_judge d [vA 0, vI (w 29 p1.toNat), vI p2] w (fun o w1 => rIt o (fun b => K (.inr b) w1) (fun x2 => (0 ≤ p1 ∧ p1 < 2000) ∧ (Cal g LM jMd_judge d [vA 0, vI (w1 30 p1.toNat), vI p2] w1 (fun o w3 => rIt o (fun b => K (.inr b) w3) (fun x4 => Cal g LM jMd_isSign d [vA 0, vI (w 27 p1.toNat), vA 1037] w3 (fun o w5 => rIt o (fun b => K (.inr b) w5) (fun x6 => (¬ x6 = 0 → (V g LM jMd_judgeBinary (d + 1) K 53 [(0, vA 0), (1, vI p1), (4, vI x2), (5, vI x4)] [] w5)) ∧ (x6 = 0 → (Cal g LM jMd_isSign d [vA 0, vI (w 27 p1.toNat), vA 1038] w5 (fun o w7 => rIt o (fun b => K (.inr b) w7) (fun x8 => (x8 = 0 → (Cal g LM jMd_isSign d [vA 0, vI (w 27 p1.toNat), vA 1041] w7 (fun o w9 => rIt o (fun b => K (.inr b) w9) (fun x10 => (¬ x10 = 0 → (V g LM jMd_judgeBinary (d + 1) K 89 [(0, vA 0), (1, vI p1), (3, vI (w 27 p1.toNat)), (4, vI x2), (5, vI x4)] [] w9)) ∧ (x10 = 0 → (Cal g LM jMd_isSign d [vA 0, vI (w 27 p1.toNat), vA 1042] w9 (fun o w11 => rIt o (fun b => K (.inr b) w11) (fun x12 => (x12 = 0 → (V g LM jMd_judgeBinary (d + 1) K 94 [(0, vA 0), (1, vI p1), (3, vI (w 27 p1.toNat)), (4, vI x2), (5, vI x4)] [vI 0] w11)) ∧ (¬ x12 = 0 → (V g LM jMd_judgeBinary (d + 1) K 89 [(0, vA 0), (1, vI p1), (3, vI (w 27 p1.toNat)), (4, vI x2), (5, vI x4)] [] w11)))))))))) ∧ (¬ x8 = 0 → (V g LM jMd_judgeBinary (d + 1) K 53 [(0, vA 0), (1, vI p1), (4, vI x2), (5, vI x4)] [] w7)))))))))))))))) : V g LM jMd_judgeBinary (d + 1) K 0 [(0, vA 0), (1, vI p1), (2, vI p2)] [] w := by
  refine v_aload_n (pc := 0) d_Md_judgeBinary_0 rfl (.head _) ?_
  refine v_getr (C := "") (pc := 1) (r := 27) d_Md_judgeBinary_1 fl_Md_219 cM_0.1 cM_0.2 (Or.inr ⟨_, rfl⟩) rM_0_33 ?_
  refine v_iload_n (pc := 4) d_Md_judgeBinary_4 rfl (.tail _ (.head _)) ?_
  refine v_iald (pc := 5) (x := (w 27 p1.toNat)) d_Md_judgeBinary_5 cM_27.1 cM_27.2 rfl h.1 ?_
  replace h := h.2
  refine v_istore_n (pc := 6) (ls' := [(3, vI (w 27 p1.toNat)), (0, vA 0), (1, vI p1), (2, vI p2)]) d_Md_judgeBinary_6 rfl (by decide) rfl ?_
  refine v_aload_n (pc := 7) d_Md_judgeBinary_7 rfl (.tail _ (.head _)) ?_
  refine v_aload_n (pc := 8) d_Md_judgeBinary_8 rfl (.tail _ (.head _)) ?_
  refine v_getr (C := "") (pc := 9) (r := 29) d_Md_judgeBinary_9 fl_Md_225 cM_0.1 cM_0.2 (Or.inr ⟨_, rfl⟩) rM_0_35 ?_
  refine v_iload_n (pc := 12) d_Md_judgeBinary_12 rfl (.tail _ (.tail _ (.head _))) ?_
  refine v_iald (pc := 13) (x := (w 29 p1.toNat)) d_Md_judgeBinary_13 cM_29.1 cM_29.2 rfl h.1 ?_
  replace h := h.2
  refine v_iload_n (pc := 14) d_Md_judgeBinary_14 rfl (.tail _ (.tail _ (.tail _ (.head _)))) ?_
  refine v_callS (pc := 15) (J' := jMd_judge) (d' := d) (As := [vA 0, vI (w 29 p1.toNat), vI p2]) d_Md_judgeBinary_15 ml_Md_487 rfl (Nat.le_of_ble_eq_true rfl) (Nat.le_refl _) rfl (Cal.weak h (fun o w1 h => ?_))
  rcases rIt_of h with ⟨x2, rfl, h⟩ | ⟨b, rfl, h⟩
  rotate_left
  · exact h
  refine v_istore (pc := 18) (ls' := [(4, vI x2), (3, vI (w 27 p1.toNat)), (0, vA 0), (1, vI p1), (2, vI p2)]) d_Md_judgeBinary_18 (by decide) rfl ?_
  refine v_aload_n (pc := 20) d_Md_judgeBinary_20 rfl (.tail _ (.tail _ (.head _))) ?_
  refine v_aload_n (pc := 21) d_Md_judgeBinary_21 rfl (.tail _ (.tail _ (.head _))) ?_
  refine v_getr (C := "") (pc := 22) (r := 30) d_Md_judgeBinary_22 fl_Md_228 cM_0.1 cM_0.2 (Or.inr ⟨_, rfl⟩) rM_0_36 ?_
  refine v_iload_n (pc := 25) d_Md_judgeBinary_25 rfl (.tail _ (.tail _ (.tail _ (.head _)))) ?_
  refine v_iald (pc := 26) (x := (w1 30 p1.toNat)) d_Md_judgeBinary_26 cM_30.1 cM_30.2 rfl h.1 ?_
  replace h := h.2
  refine v_iload_n (pc := 27) d_Md_judgeBinary_27 rfl (.tail _ (.tail _ (.tail _ (.tail _ (.head _))))) ?_
  refine v_callS (pc := 28) (J' := jMd_judge) (d' := d) (As := [vA 0, vI (w1 30 p1.toNat), vI p2]) d_Md_judgeBinary_28 ml_Md_487 rfl (Nat.le_of_ble_eq_true rfl) (Nat.le_refl _) rfl (Cal.weak h (fun o w3 h => ?_))
  rcases rIt_of h with ⟨x4, rfl, h⟩ | ⟨b, rfl, h⟩
  rotate_left
  · exact h
  refine v_istore (pc := 31) (ls' := [(5, vI x4), (4, vI x2), (3, vI (w 27 p1.toNat)), (0, vA 0), (1, vI p1), (2, vI p2)]) d_Md_judgeBinary_31 (by decide) rfl ?_
  refine v_aload_n (pc := 33) d_Md_judgeBinary_33 rfl (.tail _ (.tail _ (.tail _ (.head _)))) ?_
  refine v_iload_n (pc := 34) d_Md_judgeBinary_34 rfl (.tail _ (.tail _ (.head _))) ?_
  refine v_ldcs (pc := 35) (n := 36) (tx := "==") d_Md_judgeBinary_35 (by decide +kernel) ?_
  refine v_callV (pc := 37) (J' := jMd_isSign) (d' := d) (o := 0) (ci := 13) (N := 93) (T := cT13) (As := [vI (w 27 p1.toNat), vA 1037]) d_Md_judgeBinary_37 ml_Md_498 cM_0.1 cM_0.2 (by decide) rfl rfl (Nat.le_of_ble_eq_true rfl) (Nat.le_refl _) rfl (Cal.weak h (fun o w5 h => ?_))
  rcases rIt_of h with ⟨x6, rfl, h⟩ | ⟨b, rfl, h⟩
  rotate_left
  · exact h
  refine v_ifne (pc := 40) (tgt := 53) d_Md_judgeBinary_40 (by decide) (fun c => ?_) (fun c => ?_)
  · replace h := h.1 c
    exact v_sub (List.forall_mem_cons.mpr ⟨(.tail _ (.tail _ (.tail _ (.head _)))), (List.forall_mem_cons.mpr ⟨(.tail _ (.tail _ (.tail _ (.tail _ (.head _))))), (List.forall_mem_cons.mpr ⟨(.tail _ (.head _)), (List.forall_mem_cons.mpr ⟨(.head _), (fun _ z => absurd z List.not_mem_nil)⟩)⟩)⟩)⟩) h
  · replace h := h.2 c
    refine v_aload_n (pc := 43) d_Md_judgeBinary_43 rfl (.tail _ (.tail _ (.tail _ (.head _)))) ?_
    refine v_iload_n (pc := 44) d_Md_judgeBinary_44 rfl (.tail _ (.tail _ (.head _))) ?_
    refine v_ldcs (pc := 45) (n := 37) (tx := "!=") d_Md_judgeBinary_45 (by decide +kernel) ?_
    refine v_callV (pc := 47) (J' := jMd_isSign) (d' := d) (o := 0) (ci := 13) (N := 93) (T := cT13) (As := [vI (w 27 p1.toNat), vA 1038]) d_Md_judgeBinary_47 ml_Md_498 cM_0.1 cM_0.2 (by decide) rfl rfl (Nat.le_of_ble_eq_true rfl) (Nat.le_refl _) rfl (Cal.weak h (fun o w7 h => ?_))
    rcases rIt_of h with ⟨x8, rfl, h⟩ | ⟨b, rfl, h⟩
    rotate_left
    · exact h
    refine v_ifeq (pc := 50) (tgt := 69) d_Md_judgeBinary_50 (by decide) (fun c => ?_) (fun c => ?_)
    · replace h := h.1 c
      refine v_aload_n (pc := 69) d_Md_judgeBinary_69 rfl (.tail _ (.tail _ (.tail _ (.head _)))) ?_
      refine v_iload_n (pc := 70) d_Md_judgeBinary_70 rfl (.tail _ (.tail _ (.head _))) ?_
      refine v_ldcs (pc := 71) (n := 40) (tx := "&&") d_Md_judgeBinary_71 (by decide +kernel) ?_
      refine v_callV (pc := 73) (J' := jMd_isSign) (d' := d) (o := 0) (ci := 13) (N := 93) (T := cT13) (As := [vI (w 27 p1.toNat), vA 1041]) d_Md_judgeBinary_73 ml_Md_498 cM_0.1 cM_0.2 (by decide) rfl rfl (Nat.le_of_ble_eq_true rfl) (Nat.le_refl _) rfl (Cal.weak h (fun o w9 h => ?_))
      rcases rIt_of h with ⟨x10, rfl, h⟩ | ⟨b, rfl, h⟩
      rotate_left
      · exact h
      refine v_ifne (pc := 76) (tgt := 89) d_Md_judgeBinary_76 (by decide) (fun c => ?_) (fun c => ?_)
      · replace h := h.1 c
        exact v_sub (List.forall_mem_cons.mpr ⟨(.tail _ (.tail _ (.tail _ (.head _)))), (List.forall_mem_cons.mpr ⟨(.tail _ (.tail _ (.tail _ (.tail _ (.head _))))), (List.forall_mem_cons.mpr ⟨(.tail _ (.tail _ (.head _))), (List.forall_mem_cons.mpr ⟨(.tail _ (.head _)), (List.forall_mem_cons.mpr ⟨(.head _), (fun _ z => absurd z List.not_mem_nil)⟩)⟩)⟩)⟩)⟩) h
      · replace h := h.2 c
        refine v_aload_n (pc := 79) d_Md_judgeBinary_79 rfl (.tail _ (.tail _ (.tail _ (.head _)))) ?_
        refine v_iload_n (pc := 80) d_Md_judgeBinary_80 rfl (.tail _ (.tail _ (.head _))) ?_
        refine v_ldcs (pc := 81) (n := 41) (tx := "||") d_Md_judgeBinary_81 (by decide +kernel) ?_
        refine v_callV (pc := 83) (J' := jMd_isSign) (d' := d) (o := 0) (ci := 13) (N := 93) (T := cT13) (As := [vI (w 27 p1.toNat), vA 1042]) d_Md_judgeBinary_83 ml_Md_498 cM_0.1 cM_0.2 (by decide) rfl rfl (Nat.le_of_ble_eq_true rfl) (Nat.le_refl _) rfl (Cal.weak h (fun o w11 h => ?_))
        rcases rIt_of h with ⟨x12, rfl, h⟩ | ⟨b, rfl, h⟩
        rotate_left
        · exact h
        refine v_ifeq (pc := 86) (tgt := 93) d_Md_judgeBinary_86 (by decide) (fun c => ?_) (fun c => ?_)
        · replace h := h.1 c
          refine v_iconst (pc := 93) d_Md_judgeBinary_93 (by decide) ?_
          exact v_sub (List.forall_mem_cons.mpr ⟨(.tail _ (.tail _ (.tail _ (.head _)))), (List.forall_mem_cons.mpr ⟨(.tail _ (.tail _ (.tail _ (.tail _ (.head _))))), (List.forall_mem_cons.mpr ⟨(.tail _ (.tail _ (.head _))), (List.forall_mem_cons.mpr ⟨(.tail _ (.head _)), (List.forall_mem_cons.mpr ⟨(.head _), (fun _ z => absurd z List.not_mem_nil)⟩)⟩)⟩)⟩)⟩) h
        · replace h := h.2 c
          exact v_sub (List.forall_mem_cons.mpr ⟨(.tail _ (.tail _ (.tail _ (.head _)))), (List.forall_mem_cons.mpr ⟨(.tail _ (.tail _ (.tail _ (.tail _ (.head _))))), (List.forall_mem_cons.mpr ⟨(.tail _ (.tail _ (.head _))), (List.forall_mem_cons.mpr ⟨(.tail _ (.head _)), (List.forall_mem_cons.mpr ⟨(.head _), (fun _ z => absurd z List.not_mem_nil)⟩)⟩)⟩)⟩)⟩) h
    · replace h := h.2 c
      exact v_sub (List.forall_mem_cons.mpr ⟨(.tail _ (.tail _ (.tail _ (.head _)))), (List.forall_mem_cons.mpr ⟨(.tail _ (.tail _ (.tail _ (.tail _ (.head _))))), (List.forall_mem_cons.mpr ⟨(.tail _ (.head _)), (List.forall_mem_cons.mpr ⟨(.head _), (fun _ z => absurd z List.not_mem_nil)⟩)⟩)⟩)⟩) h
set_option maxHeartbeats 4000000 in
theorem s_Md_judgeBinary_53 {g : Mg} {d : Nat} {K : Ou → Wd → Prop} {w : Wd} {x1_ : Int} {x4_ : Int} {x5_ : Int} (h : (0 ≤ x1_ ∧ x1_ < 2000) ∧ (Cal g LM jMd_mustBe d [vA 0, vI (w 30 x1_.toNat), vI x5_, vI x4_] w (fun o w1 => rVt o (fun b => K (.inr b) w1) (K (.inl (some (vI 1))) w1)))) : V g LM jMd_judgeBinary (d + 1) K 53 [(0, vA 0), (1, vI x1_), (4, vI x4_), (5, vI x5_)] [] w := by
  refine v_aload_n (pc := 53) d_Md_judgeBinary_53 rfl (.head _) ?_
  refine v_aload_n (pc := 54) d_Md_judgeBinary_54 rfl (.head _) ?_
  refine v_getr (C := "") (pc := 55) (r := 30) d_Md_judgeBinary_55 fl_Md_228 cM_0.1 cM_0.2 (Or.inr ⟨_, rfl⟩) rM_0_36 ?_
  refine v_iload_n (pc := 58) d_Md_judgeBinary_58 rfl (.tail _ (.head _)) ?_
  refine v_iald (pc := 59) (x := (w 30 x1_.toNat)) d_Md_judgeBinary_59 cM_30.1 cM_30.2 rfl h.1 ?_
  replace h := h.2
  refine v_iload (pc := 60) d_Md_judgeBinary_60 (.tail _ (.tail _ (.tail _ (.head _)))) ?_
  refine v_iload (pc := 62) d_Md_judgeBinary_62 (.tail _ (.tail _ (.head _))) ?_
  refine v_callV (pc := 64) (J' := jMd_mustBe) (d' := d) (o := 0) (ci := 13) (N := 93) (T := cT13) (As := [vI (w 30 x1_.toNat), vI x5_, vI x4_]) d_Md_judgeBinary_64 ml_Md_491 cM_0.1 cM_0.2 (by decide) rfl rfl (Nat.le_of_ble_eq_true rfl) (Nat.le_refl _) rfl (Cal.weak h (fun o w1 h => ?_))
  rcases rVt_of h with ⟨rfl, h⟩ | ⟨b, rfl, h⟩
  rotate_left
  · exact h
  refine v_iconst (pc := 67) d_Md_judgeBinary_67 (by decide) ?_
  exact v_iret (pc := 68) d_Md_judgeBinary_68 rfl h
set_option maxHeartbeats 4000000 in
theorem s_Md_judgeBinary_89 {g : Mg} {d : Nat} {K : Ou → Wd → Prop} {w : Wd} {x1_ : Int} {x3_ : Int} {x4_ : Int} {x5_ : Int} (h : V g LM jMd_judgeBinary (d + 1) K 94 [(0, vA 0), (1, vI x1_), (3, vI x3_), (4, vI x4_), (5, vI x5_)] [vI 1] w) : V g LM jMd_judgeBinary (d + 1) K 89 [(0, vA 0), (1, vI x1_), (3, vI x3_), (4, vI x4_), (5, vI x5_)] [] w := by
  refine v_iconst (pc := 89) d_Md_judgeBinary_89 (by decide) ?_
  refine v_goto (pc := 90) (tgt := 94) d_Md_judgeBinary_90 (by decide) ?_
  exact v_sub (List.forall_mem_cons.mpr ⟨(.head _), (List.forall_mem_cons.mpr ⟨(.tail _ (.head _)), (List.forall_mem_cons.mpr ⟨(.tail _ (.tail _ (.head _))), (List.forall_mem_cons.mpr ⟨(.tail _ (.tail _ (.tail _ (.head _)))), (List.forall_mem_cons.mpr ⟨(.tail _ (.tail _ (.tail _ (.tail _ (.head _))))), (fun _ z => absurd z List.not_mem_nil)⟩)⟩)⟩)⟩)⟩) h
set_option maxHeartbeats 4000000 in
theorem s_Md_judgeBinary_94 {g : Mg} {d : Nat} {K : Ou → Wd → Prop} {w : Wd} {x1_ : Int} {x3_ : Int} {x4_ : Int} {x5_ : Int} {s0_ : Int} (h : (s0_ = 0 → (V g LM jMd_judgeBinary (d + 1) K 106 [(0, vA 0), (1, vI x1_), (3, vI x3_), (4, vI x4_), (5, vI x5_), (6, vI s0_)] [vI 0] w)) ∧ (¬ s0_ = 0 → (V g LM jMd_judgeBinary (d + 1) K 106 [(0, vA 0), (1, vI x1_), (3, vI x3_), (4, vI x4_), (5, vI x5_), (6, vI s0_)] [vI 1] w))) : V g LM jMd_judgeBinary (d + 1) K 94 [(0, vA 0), (1, vI x1_), (3, vI x3_), (4, vI x4_), (5, vI x5_)] [vI s0_] w := by
  refine v_istore (pc := 94) (ls' := [(6, vI s0_), (0, vA 0), (1, vI x1_), (3, vI x3_), (4, vI x4_), (5, vI x5_)]) d_Md_judgeBinary_94 (by decide) rfl ?_
  refine v_iload (pc := 96) d_Md_judgeBinary_96 (.head _) ?_
  refine v_ifeq (pc := 98) (tgt := 105) d_Md_judgeBinary_98 (by decide) (fun c => ?_) (fun c => ?_)
  · replace h := h.1 c
    refine v_iconst (pc := 105) d_Md_judgeBinary_105 (by decide) ?_
    exact v_sub (List.forall_mem_cons.mpr ⟨(.tail _ (.head _)), (List.forall_mem_cons.mpr ⟨(.tail _ (.tail _ (.head _))), (List.forall_mem_cons.mpr ⟨(.tail _ (.tail _ (.tail _ (.head _)))), (List.forall_mem_cons.mpr ⟨(.tail _ (.tail _ (.tail _ (.tail _ (.head _))))), (List.forall_mem_cons.mpr ⟨(.tail _ (.tail _ (.tail _ (.tail _ (.tail _ (.head _)))))), (List.forall_mem_cons.mpr ⟨(.head _), (fun _ z => absurd z List.not_mem_nil)⟩)⟩)⟩)⟩)⟩)⟩) h
  · replace h := h.2 c
    refine v_iconst (pc := 101) d_Md_judgeBinary_101 (by decide) ?_
    refine v_goto (pc := 102) (tgt := 106) d_Md_judgeBinary_102 (by decide) ?_
    exact v_sub (List.forall_mem_cons.mpr ⟨(.tail _ (.head _)), (List.forall_mem_cons.mpr ⟨(.tail _ (.tail _ (.head _))), (List.forall_mem_cons.mpr ⟨(.tail _ (.tail _ (.tail _ (.head _)))), (List.forall_mem_cons.mpr ⟨(.tail _ (.tail _ (.tail _ (.tail _ (.head _))))), (List.forall_mem_cons.mpr ⟨(.tail _ (.tail _ (.tail _ (.tail _ (.tail _ (.head _)))))), (List.forall_mem_cons.mpr ⟨(.head _), (fun _ z => absurd z List.not_mem_nil)⟩)⟩)⟩)⟩)⟩)⟩) h
set_option maxHeartbeats 4000000 in
theorem s_Md_judgeBinary_106 {g : Mg} {d : Nat} {K : Ou → Wd → Prop} {w : Wd} {x1_ : Int} {x3_ : Int} {x4_ : Int} {x5_ : Int} {x6_ : Int} {s0_ : Int} (h : (0 ≤ x1_ ∧ x1_ < 2000) ∧ (Cal g LM jMd_mustBe d [vA 0, vI (w 29 x1_.toNat), vI x4_, vI s0_] w (fun o w1 => rVt o (fun b => K (.inr b) w1) ((0 ≤ x1_ ∧ x1_ < 2000) ∧ (Cal g LM jMd_mustBe d [vA 0, vI (w1 30 x1_.toNat), vI x5_, vI s0_] w1 (fun o w2 => rVt o (fun b => K (.inr b) w2) (Cal g LM jMd_isSign d [vA 0, vI x3_, vA 1052] w2 (fun o w3 => rIt o (fun b => K (.inr b) w3) (fun x4 => (¬ x4 = 0 → (V g LM jMd_judgeBinary (d + 1) K 176 [(6, vI x6_)] [] w3)) ∧ (x4 = 0 → (Cal g LM jMd_isSign d [vA 0, vI x3_, vA 1039] w3 (fun o w5 => rIt o (fun b => K (.inr b) w5) (fun x6 => (¬ x6 = 0 → (V g LM jMd_judgeBinary (d + 1) K 176 [(6, vI x6_)] [] w5)) ∧ (x6 = 0 → (Cal g LM jMd_isSign d [vA 0, vI x3_, vA 1053] w5 (fun o w7 => rIt o (fun b => K (.inr b) w7) (fun x8 => (¬ x8 = 0 → (V g LM jMd_judgeBinary (d + 1) K 176 [(6, vI x6_)] [] w7)) ∧ (x8 = 0 → (Cal g LM jMd_isSign d [vA 0, vI x3_, vA 1040] w7 (fun o w9 => rIt o (fun b => K (.inr b) w9) (fun x10 => (x10 = 0 → (V g LM jMd_judgeBinary (d + 1) K 181 [(6, vI x6_)] [vI 0] w9)) ∧ (¬ x10 = 0 → (V g LM jMd_judgeBinary (d + 1) K 176 [(6, vI x6_)] [] w9))))))))))))))))))))))) : V g LM jMd_judgeBinary (d + 1) K 106 [(0, vA 0), (1, vI x1_), (3, vI x3_), (4, vI x4_), (5, vI x5_), (6, vI x6_)] [vI s0_] w := by
  refine v_istore (pc := 106) (ls' := [(7, vI s0_), (0, vA 0), (1, vI x1_), (3, vI x3_), (4, vI x4_), (5, vI x5_), (6, vI x6_)]) d_Md_judgeBinary_106 (by decide) rfl ?_
  refine v_aload_n (pc := 108) d_Md_judgeBinary_108 rfl (.tail _ (.head _)) ?_
  refine v_aload_n (pc := 109) d_Md_judgeBinary_109 rfl (.tail _ (.head _)) ?_
  refine v_getr (C := "") (pc := 110) (r := 29) d_Md_judgeBinary_110 fl_Md_225 cM_0.1 cM_0.2 (Or.inr ⟨_, rfl⟩) rM_0_35 ?_
  refine v_iload_n (pc := 113) d_Md_judgeBinary_113 rfl (.tail _ (.tail _ (.head _))) ?_
  refine v_iald (pc := 114) (x := (w 29 x1_.toNat)) d_Md_judgeBinary_114 cM_29.1 cM_29.2 rfl h.1 ?_
  replace h := h.2
  refine v_iload (pc := 115) d_Md_judgeBinary_115 (.tail _ (.tail _ (.tail _ (.tail _ (.head _))))) ?_
  refine v_iload (pc := 117) d_Md_judgeBinary_117 (.head _) ?_
  refine v_callV (pc := 119) (J' := jMd_mustBe) (d' := d) (o := 0) (ci := 13) (N := 93) (T := cT13) (As := [vI (w 29 x1_.toNat), vI x4_, vI s0_]) d_Md_judgeBinary_119 ml_Md_491 cM_0.1 cM_0.2 (by decide) rfl rfl (Nat.le_of_ble_eq_true rfl) (Nat.le_refl _) rfl (Cal.weak h (fun o w1 h => ?_))
  rcases rVt_of h with ⟨rfl, h⟩ | ⟨b, rfl, h⟩
  rotate_left
  · exact h
  refine v_aload_n (pc := 122) d_Md_judgeBinary_122 rfl (.tail _ (.head _)) ?_
  refine v_aload_n (pc := 123) d_Md_judgeBinary_123 rfl (.tail _ (.head _)) ?_
  refine v_getr (C := "") (pc := 124) (r := 30) d_Md_judgeBinary_124 fl_Md_228 cM_0.1 cM_0.2 (Or.inr ⟨_, rfl⟩) rM_0_36 ?_
  refine v_iload_n (pc := 127) d_Md_judgeBinary_127 rfl (.tail _ (.tail _ (.head _))) ?_
  refine v_iald (pc := 128) (x := (w1 30 x1_.toNat)) d_Md_judgeBinary_128 cM_30.1 cM_30.2 rfl h.1 ?_
  replace h := h.2
  refine v_iload (pc := 129) d_Md_judgeBinary_129 (.tail _ (.tail _ (.tail _ (.tail _ (.tail _ (.head _)))))) ?_
  refine v_iload (pc := 131) d_Md_judgeBinary_131 (.head _) ?_
  refine v_callV (pc := 133) (J' := jMd_mustBe) (d' := d) (o := 0) (ci := 13) (N := 93) (T := cT13) (As := [vI (w1 30 x1_.toNat), vI x5_, vI s0_]) d_Md_judgeBinary_133 ml_Md_491 cM_0.1 cM_0.2 (by decide) rfl rfl (Nat.le_of_ble_eq_true rfl) (Nat.le_refl _) rfl (Cal.weak h (fun o w2 h => ?_))
  rcases rVt_of h with ⟨rfl, h⟩ | ⟨b, rfl, h⟩
  rotate_left
  · exact h
  refine v_aload_n (pc := 136) d_Md_judgeBinary_136 rfl (.tail _ (.head _)) ?_
  refine v_iload_n (pc := 137) d_Md_judgeBinary_137 rfl (.tail _ (.tail _ (.tail _ (.head _)))) ?_
  refine v_ldcs (pc := 138) (n := 51) (tx := "<") d_Md_judgeBinary_138 (by decide +kernel) ?_
  refine v_callV (pc := 140) (J' := jMd_isSign) (d' := d) (o := 0) (ci := 13) (N := 93) (T := cT13) (As := [vI x3_, vA 1052]) d_Md_judgeBinary_140 ml_Md_498 cM_0.1 cM_0.2 (by decide) rfl rfl (Nat.le_of_ble_eq_true rfl) (Nat.le_refl _) rfl (Cal.weak h (fun o w3 h => ?_))
  rcases rIt_of h with ⟨x4, rfl, h⟩ | ⟨b, rfl, h⟩
  rotate_left
  · exact h
  refine v_ifne (pc := 143) (tgt := 176) d_Md_judgeBinary_143 (by decide) (fun c => ?_) (fun c => ?_)
  · replace h := h.1 c
    exact v_sub (List.forall_mem_cons.mpr ⟨(.tail _ (.tail _ (.tail _ (.tail _ (.tail _ (.tail _ (.head _))))))), (fun _ z => absurd z List.not_mem_nil)⟩) h
  · replace h := h.2 c
    refine v_aload_n (pc := 146) d_Md_judgeBinary_146 rfl (.tail _ (.head _)) ?_
    refine v_iload_n (pc := 147) d_Md_judgeBinary_147 rfl (.tail _ (.tail _ (.tail _ (.head _)))) ?_
    refine v_ldcs (pc := 148) (n := 38) (tx := "<=") d_Md_judgeBinary_148 (by decide +kernel) ?_
    refine v_callV (pc := 150) (J' := jMd_isSign) (d' := d) (o := 0) (ci := 13) (N := 93) (T := cT13) (As := [vI x3_, vA 1039]) d_Md_judgeBinary_150 ml_Md_498 cM_0.1 cM_0.2 (by decide) rfl rfl (Nat.le_of_ble_eq_true rfl) (Nat.le_refl _) rfl (Cal.weak h (fun o w5 h => ?_))
    rcases rIt_of h with ⟨x6, rfl, h⟩ | ⟨b, rfl, h⟩
    rotate_left
    · exact h
    refine v_ifne (pc := 153) (tgt := 176) d_Md_judgeBinary_153 (by decide) (fun c => ?_) (fun c => ?_)
    · replace h := h.1 c
      exact v_sub (List.forall_mem_cons.mpr ⟨(.tail _ (.tail _ (.tail _ (.tail _ (.tail _ (.tail _ (.head _))))))), (fun _ z => absurd z List.not_mem_nil)⟩) h
    · replace h := h.2 c
      refine v_aload_n (pc := 156) d_Md_judgeBinary_156 rfl (.tail _ (.head _)) ?_
      refine v_iload_n (pc := 157) d_Md_judgeBinary_157 rfl (.tail _ (.tail _ (.tail _ (.head _)))) ?_
      refine v_ldcs (pc := 158) (n := 52) (tx := ">") d_Md_judgeBinary_158 (by decide +kernel) ?_
      refine v_callV (pc := 160) (J' := jMd_isSign) (d' := d) (o := 0) (ci := 13) (N := 93) (T := cT13) (As := [vI x3_, vA 1053]) d_Md_judgeBinary_160 ml_Md_498 cM_0.1 cM_0.2 (by decide) rfl rfl (Nat.le_of_ble_eq_true rfl) (Nat.le_refl _) rfl (Cal.weak h (fun o w7 h => ?_))
      rcases rIt_of h with ⟨x8, rfl, h⟩ | ⟨b, rfl, h⟩
      rotate_left
      · exact h
      refine v_ifne (pc := 163) (tgt := 176) d_Md_judgeBinary_163 (by decide) (fun c => ?_) (fun c => ?_)
      · replace h := h.1 c
        exact v_sub (List.forall_mem_cons.mpr ⟨(.tail _ (.tail _ (.tail _ (.tail _ (.tail _ (.tail _ (.head _))))))), (fun _ z => absurd z List.not_mem_nil)⟩) h
      · replace h := h.2 c
        refine v_aload_n (pc := 166) d_Md_judgeBinary_166 rfl (.tail _ (.head _)) ?_
        refine v_iload_n (pc := 167) d_Md_judgeBinary_167 rfl (.tail _ (.tail _ (.tail _ (.head _)))) ?_
        refine v_ldcs (pc := 168) (n := 39) (tx := ">=") d_Md_judgeBinary_168 (by decide +kernel) ?_
        refine v_callV (pc := 170) (J' := jMd_isSign) (d' := d) (o := 0) (ci := 13) (N := 93) (T := cT13) (As := [vI x3_, vA 1040]) d_Md_judgeBinary_170 ml_Md_498 cM_0.1 cM_0.2 (by decide) rfl rfl (Nat.le_of_ble_eq_true rfl) (Nat.le_refl _) rfl (Cal.weak h (fun o w9 h => ?_))
        rcases rIt_of h with ⟨x10, rfl, h⟩ | ⟨b, rfl, h⟩
        rotate_left
        · exact h
        refine v_ifeq (pc := 173) (tgt := 180) d_Md_judgeBinary_173 (by decide) (fun c => ?_) (fun c => ?_)
        · replace h := h.1 c
          refine v_iconst (pc := 180) d_Md_judgeBinary_180 (by decide) ?_
          exact v_sub (List.forall_mem_cons.mpr ⟨(.tail _ (.tail _ (.tail _ (.tail _ (.tail _ (.tail _ (.head _))))))), (fun _ z => absurd z List.not_mem_nil)⟩) h
        · replace h := h.2 c
          exact v_sub (List.forall_mem_cons.mpr ⟨(.tail _ (.tail _ (.tail _ (.tail _ (.tail _ (.tail _ (.head _))))))), (fun _ z => absurd z List.not_mem_nil)⟩) h
set_option maxHeartbeats 4000000 in
theorem s_Md_judgeBinary_176 {g : Mg} {d : Nat} {K : Ou → Wd → Prop} {w : Wd} {x6_ : Int} (h : V g LM jMd_judgeBinary (d + 1) K 181 [(6, vI x6_)] [vI 1] w) : V g LM jMd_judgeBinary (d + 1) K 176 [(6, vI x6_)] [] w := by
  refine v_iconst (pc := 176) d_Md_judgeBinary_176 (by decide) ?_
  refine v_goto (pc := 177) (tgt := 181) d_Md_judgeBinary_177 (by decide) ?_
  exact v_sub (List.forall_mem_cons.mpr ⟨(.head _), (fun _ z => absurd z List.not_mem_nil)⟩) h
set_option maxHeartbeats 4000000 in
theorem s_Md_judgeBinary_181 {g : Mg} {d : Nat} {K : Ou → Wd → Prop} {w : Wd} {x6_ : Int} {s0_ : Int} (h : (¬ x6_ = 0 → (V g LM jMd_judgeBinary (d + 1) K 193 [] [] w)) ∧ (x6_ = 0 → ((s0_ = 0 → (V g LM jMd_judgeBinary (d + 1) K 198 [] [vI 0] w)) ∧ (¬ s0_ = 0 → (V g LM jMd_judgeBinary (d + 1) K 193 [] [] w))))) : V g LM jMd_judgeBinary (d + 1) K 181 [(6, vI x6_)] [vI s0_] w := by
  refine v_istore (pc := 181) (ls' := [(8, vI s0_), (6, vI x6_)]) d_Md_judgeBinary_181 (by decide) rfl ?_
  refine v_iload (pc := 183) d_Md_judgeBinary_183 (.tail _ (.head _)) ?_
  refine v_ifne (pc := 185) (tgt := 193) d_Md_judgeBinary_185 (by decide) (fun c => ?_) (fun c => ?_)
  · replace h := h.1 c
    exact v_sub (fun _ z => absurd z List.not_mem_nil) h
  · replace h := h.2 c
    refine v_iload (pc := 188) d_Md_judgeBinary_188 (.head _) ?_
    refine v_ifeq (pc := 190) (tgt := 197) d_Md_judgeBinary_190 (by decide) (fun c => ?_) (fun c => ?_)
    · replace h := h.1 c
      refine v_iconst (pc := 197) d_Md_judgeBinary_197 (by decide) ?_
      exact v_sub (fun _ z => absurd z List.not_mem_nil) h
    · replace h := h.2 c
      exact v_sub (fun _ z => absurd z List.not_mem_nil) h
set_option maxHeartbeats 4000000 in
theorem s_Md_judgeBinary_193 {g : Mg} {d : Nat} {K : Ou → Wd → Prop} {w : Wd} (h : V g LM jMd_judgeBinary (d + 1) K 198 [] [vI 1] w) : V g LM jMd_judgeBinary (d + 1) K 193 [] [] w := by
  refine v_iconst (pc := 193) d_Md_judgeBinary_193 (by decide) ?_
  refine v_goto (pc := 194) (tgt := 198) d_Md_judgeBinary_194 (by decide) ?_
  exact v_sub (fun _ z => absurd z List.not_mem_nil) h
set_option maxHeartbeats 4000000 in
theorem s_Md_judgeBinary_198 {g : Mg} {d : Nat} {K : Ou → Wd → Prop} {w : Wd} {s0_ : Int} (h : K (.inl (some (vI s0_))) w) : V g LM jMd_judgeBinary (d + 1) K 198 [] [vI s0_] w := by
  exact v_iret (pc := 198) d_Md_judgeBinary_198 rfl h
theorem d_Md_judgeBlock_0 : decode jMd_judgeBlock.cc 0 = .ok (.aload_n 0, 1) := by decide +kernel
theorem d_Md_judgeBlock_1 : decode jMd_judgeBlock.cc 1 = .ok (.getfield 478, 3) := by decide +kernel
theorem d_Md_judgeBlock_4 : decode jMd_judgeBlock.cc 4 = .ok (.istore_n 2, 1) := by decide +kernel
theorem d_Md_judgeBlock_5 : decode jMd_judgeBlock.cc 5 = .ok (.iload_n 1, 1) := by decide +kernel
theorem d_Md_judgeBlock_6 : decode jMd_judgeBlock.cc 6 = .ok (.istore_n 3, 1) := by decide +kernel
theorem d_Md_judgeBlock_7 : decode jMd_judgeBlock.cc 7 = .ok (.iload_n 3, 1) := by decide +kernel
theorem d_Md_judgeBlock_8 : decode jMd_judgeBlock.cc 8 = .ok (.ifCond .lt 376, 3) := by decide +kernel
theorem d_Md_judgeBlock_11 : decode jMd_judgeBlock.cc 11 = .ok (.aload_n 0, 1) := by decide +kernel
theorem d_Md_judgeBlock_12 : decode jMd_judgeBlock.cc 12 = .ok (.getfield 194, 3) := by decide +kernel
theorem d_Md_judgeBlock_15 : decode jMd_judgeBlock.cc 15 = .ok (.iload_n 3, 1) := by decide +kernel
theorem d_Md_judgeBlock_16 : decode jMd_judgeBlock.cc 16 = .ok (.iaload, 1) := by decide +kernel
theorem d_Md_judgeBlock_17 : decode jMd_judgeBlock.cc 17 = .ok (.istore 4, 2) := by decide +kernel
theorem d_Md_judgeBlock_19 : decode jMd_judgeBlock.cc 19 = .ok (.aload_n 0, 1) := by decide +kernel
theorem d_Md_judgeBlock_20 : decode jMd_judgeBlock.cc 20 = .ok (.getfield 197, 3) := by decide +kernel
theorem d_Md_judgeBlock_23 : decode jMd_judgeBlock.cc 23 = .ok (.iload_n 3, 1) := by decide +kernel
theorem d_Md_judgeBlock_24 : decode jMd_judgeBlock.cc 24 = .ok (.iaload, 1) := by decide +kernel
theorem d_Md_judgeBlock_25 : decode jMd_judgeBlock.cc 25 = .ok (.istore 5, 2) := by decide +kernel
theorem d_Md_judgeBlock_27 : decode jMd_judgeBlock.cc 27 = .ok (.aload_n 0, 1) := by decide +kernel
theorem d_Md_judgeBlock_28 : decode jMd_judgeBlock.cc 28 = .ok (.getfield 188, 3) := by decide +kernel
theorem d_Md_judgeBlock_31 : decode jMd_judgeBlock.cc 31 = .ok (.iload_n 3, 1) := by decide +kernel
theorem d_Md_judgeBlock_32 : decode jMd_judgeBlock.cc 32 = .ok (.iaload, 1) := by decide +kernel
theorem d_Md_judgeBlock_33 : decode jMd_judgeBlock.cc 33 = .ok (.tableswitch 341 0 5 #[39, 129, 199, 199, 291, 328], 39) := by decide +kernel
theorem d_Md_judgeBlock_72 : decode jMd_judgeBlock.cc 72 = .ok (.iconst 2, 1) := by decide +kernel
theorem d_Md_judgeBlock_73 : decode jMd_judgeBlock.cc 73 = .ok (.istore 6, 2) := by decide +kernel
theorem d_Md_judgeBlock_75 : decode jMd_judgeBlock.cc 75 = .ok (.aload_n 0, 1) := by decide +kernel
theorem d_Md_judgeBlock_76 : decode jMd_judgeBlock.cc 76 = .ok (.iload 4, 2) := by decide +kernel
theorem d_Md_judgeBlock_78 : decode jMd_judgeBlock.cc 78 = .ok (.invokevirtual 484, 3) := by decide +kernel
theorem d_Md_judgeBlock_81 : decode jMd_judgeBlock.cc 81 = .ok (.ifCond .eq 19, 3) := by decide +kernel
theorem d_Md_judgeBlock_84 : decode jMd_judgeBlock.cc 84 = .ok (.aload_n 0, 1) := by decide +kernel
theorem d_Md_judgeBlock_85 : decode jMd_judgeBlock.cc 85 = .ok (.getfield 466, 3) := by decide +kernel
theorem d_Md_judgeBlock_88 : decode jMd_judgeBlock.cc 88 = .ok (.iconst 1, 1) := by decide +kernel
theorem d_Md_judgeBlock_89 : decode jMd_judgeBlock.cc 89 = .ok (.if_icmp .eq 21, 3) := by decide +kernel
theorem d_Md_judgeBlock_92 : decode jMd_judgeBlock.cc 92 = .ok (.aload_n 0, 1) := by decide +kernel
theorem d_Md_judgeBlock_93 : decode jMd_judgeBlock.cc 93 = .ok (.getfield 466, 3) := by decide +kernel
theorem d_Md_judgeBlock_96 : decode jMd_judgeBlock.cc 96 = .ok (.iconst 4, 1) := by decide +kernel
theorem d_Md_judgeBlock_97 : decode jMd_judgeBlock.cc 97 = .ok (.if_icmp .eq 13, 3) := by decide +kernel
theorem d_Md_judgeBlock_100 : decode jMd_judgeBlock.cc 100 = .ok (.aload_n 0, 1) := by decide +kernel
theorem d_Md_judgeBlock_101 : decode jMd_judgeBlock.cc 101 = .ok (.iconst 4, 1) := by decide +kernel
theorem d_Md_judgeBlock_102 : decode jMd_judgeBlock.cc 102 = .ok (.iload 4, 2) := by decide +kernel
theorem d_Md_judgeBlock_104 : decode jMd_judgeBlock.cc 104 = .ok (.invokevirtual 481, 3) := by decide +kernel
theorem d_Md_judgeBlock_107 : decode jMd_judgeBlock.cc 107 = .ok (.goto 37, 3) := by decide +kernel
theorem d_Md_judgeBlock_110 : decode jMd_judgeBlock.cc 110 = .ok (.aload_n 0, 1) := by decide +kernel
theorem d_Md_judgeBlock_111 : decode jMd_judgeBlock.cc 111 = .ok (.getfield 475, 3) := by decide +kernel
theorem d_Md_judgeBlock_114 : decode jMd_judgeBlock.cc 114 = .ok (.istore 6, 2) := by decide +kernel
theorem d_Md_judgeBlock_116 : decode jMd_judgeBlock.cc 116 = .ok (.aload_n 0, 1) := by decide +kernel
theorem d_Md_judgeBlock_117 : decode jMd_judgeBlock.cc 117 = .ok (.getfield 209, 3) := by decide +kernel
theorem d_Md_judgeBlock_120 : decode jMd_judgeBlock.cc 120 = .ok (.iload_n 3, 1) := by decide +kernel
theorem d_Md_judgeBlock_121 : decode jMd_judgeBlock.cc 121 = .ok (.aload_n 0, 1) := by decide +kernel
theorem d_Md_judgeBlock_122 : decode jMd_judgeBlock.cc 122 = .ok (.getfield 466, 3) := by decide +kernel
theorem d_Md_judgeBlock_125 : decode jMd_judgeBlock.cc 125 = .ok (.iconst 1, 1) := by decide +kernel
theorem d_Md_judgeBlock_126 : decode jMd_judgeBlock.cc 126 = .ok (.if_icmp .ne 10, 3) := by decide +kernel
theorem d_Md_judgeBlock_129 : decode jMd_judgeBlock.cc 129 = .ok (.aload_n 0, 1) := by decide +kernel
theorem d_Md_judgeBlock_130 : decode jMd_judgeBlock.cc 130 = .ok (.getfield 472, 3) := by decide +kernel
theorem d_Md_judgeBlock_133 : decode jMd_judgeBlock.cc 133 = .ok (.goto 10, 3) := by decide +kernel
theorem d_Md_judgeBlock_136 : decode jMd_judgeBlock.cc 136 = .ok (.bipush 100, 2) := by decide +kernel
theorem d_Md_judgeBlock_138 : decode jMd_judgeBlock.cc 138 = .ok (.aload_n 0, 1) := by decide +kernel
theorem d_Md_judgeBlock_139 : decode jMd_judgeBlock.cc 139 = .ok (.getfield 472, 3) := by decide +kernel
theorem d_Md_judgeBlock_142 : decode jMd_judgeBlock.cc 142 = .ok (.iadd, 1) := by decide +kernel
theorem d_Md_judgeBlock_143 : decode jMd_judgeBlock.cc 143 = .ok (.iastore, 1) := by decide +kernel
theorem d_Md_judgeBlock_144 : decode jMd_judgeBlock.cc 144 = .ok (.aload_n 0, 1) := by decide +kernel
theorem d_Md_judgeBlock_145 : decode jMd_judgeBlock.cc 145 = .ok (.iload 5, 2) := by decide +kernel
theorem d_Md_judgeBlock_147 : decode jMd_judgeBlock.cc 147 = .ok (.aload_n 0, 1) := by decide +kernel
theorem d_Md_judgeBlock_148 : decode jMd_judgeBlock.cc 148 = .ok (.iload 5, 2) := by decide +kernel
theorem d_Md_judgeBlock_150 : decode jMd_judgeBlock.cc 150 = .ok (.iconst 0, 1) := by decide +kernel
theorem d_Md_judgeBlock_151 : decode jMd_judgeBlock.cc 151 = .ok (.invokestatic 487, 3) := by decide +kernel
theorem d_Md_judgeBlock_154 : decode jMd_judgeBlock.cc 154 = .ok (.iload 6, 2) := by decide +kernel
theorem d_Md_judgeBlock_156 : decode jMd_judgeBlock.cc 156 = .ok (.invokevirtual 491, 3) := by decide +kernel
theorem d_Md_judgeBlock_159 : decode jMd_judgeBlock.cc 159 = .ok (.goto 215, 3) := by decide +kernel
theorem d_Md_judgeBlock_162 : decode jMd_judgeBlock.cc 162 = .ok (.aload_n 0, 1) := by decide +kernel
theorem d_Md_judgeBlock_163 : decode jMd_judgeBlock.cc 163 = .ok (.iload 5, 2) := by decide +kernel
theorem d_Md_judgeBlock_165 : decode jMd_judgeBlock.cc 165 = .ok (.iconst 0, 1) := by decide +kernel
theorem d_Md_judgeBlock_166 : decode jMd_judgeBlock.cc 166 = .ok (.invokestatic 487, 3) := by decide +kernel
theorem d_Md_judgeBlock_169 : decode jMd_judgeBlock.cc 169 = .ok (.istore 7, 2) := by decide +kernel
theorem d_Md_judgeBlock_171 : decode jMd_judgeBlock.cc 171 = .ok (.aload_n 0, 1) := by decide +kernel
theorem d_Md_judgeBlock_172 : decode jMd_judgeBlock.cc 172 = .ok (.iload 4, 2) := by decide +kernel
theorem d_Md_judgeBlock_174 : decode jMd_judgeBlock.cc 174 = .ok (.invokevirtual 484, 3) := by decide +kernel
theorem d_Md_judgeBlock_177 : decode jMd_judgeBlock.cc 177 = .ok (.ifCond .eq 10, 3) := by decide +kernel
theorem d_Md_judgeBlock_180 : decode jMd_judgeBlock.cc 180 = .ok (.aload_n 0, 1) := by decide +kernel
theorem d_Md_judgeBlock_181 : decode jMd_judgeBlock.cc 181 = .ok (.iconst 3, 1) := by decide +kernel
theorem d_Md_judgeBlock_182 : decode jMd_judgeBlock.cc 182 = .ok (.iload 4, 2) := by decide +kernel
theorem d_Md_judgeBlock_184 : decode jMd_judgeBlock.cc 184 = .ok (.invokevirtual 481, 3) := by decide +kernel
theorem d_Md_judgeBlock_187 : decode jMd_judgeBlock.cc 187 = .ok (.aload_n 0, 1) := by decide +kernel
theorem d_Md_judgeBlock_188 : decode jMd_judgeBlock.cc 188 = .ok (.getfield 240, 3) := by decide +kernel
theorem d_Md_judgeBlock_191 : decode jMd_judgeBlock.cc 191 = .ok (.aload_n 0, 1) := by decide +kernel
theorem d_Md_judgeBlock_192 : decode jMd_judgeBlock.cc 192 = .ok (.getfield 478, 3) := by decide +kernel
theorem d_Md_judgeBlock_195 : decode jMd_judgeBlock.cc 195 = .ok (.iload 4, 2) := by decide +kernel
theorem d_Md_judgeBlock_197 : decode jMd_judgeBlock.cc 197 = .ok (.iastore, 1) := by decide +kernel
theorem d_Md_judgeBlock_198 : decode jMd_judgeBlock.cc 198 = .ok (.aload_n 0, 1) := by decide +kernel
theorem d_Md_judgeBlock_199 : decode jMd_judgeBlock.cc 199 = .ok (.getfield 243, 3) := by decide +kernel
theorem d_Md_judgeBlock_202 : decode jMd_judgeBlock.cc 202 = .ok (.aload_n 0, 1) := by decide +kernel
theorem d_Md_judgeBlock_203 : decode jMd_judgeBlock.cc 203 = .ok (.getfield 478, 3) := by decide +kernel
theorem d_Md_judgeBlock_206 : decode jMd_judgeBlock.cc 206 = .ok (.iload 7, 2) := by decide +kernel
theorem d_Md_judgeBlock_208 : decode jMd_judgeBlock.cc 208 = .ok (.iastore, 1) := by decide +kernel
theorem d_Md_judgeBlock_209 : decode jMd_judgeBlock.cc 209 = .ok (.aload_n 0, 1) := by decide +kernel
theorem d_Md_judgeBlock_210 : decode jMd_judgeBlock.cc 210 = .ok (.getfield 209, 3) := by decide +kernel
theorem d_Md_judgeBlock_213 : decode jMd_judgeBlock.cc 213 = .ok (.iload_n 3, 1) := by decide +kernel
theorem d_Md_judgeBlock_214 : decode jMd_judgeBlock.cc 214 = .ok (.aload_n 0, 1) := by decide +kernel
theorem d_Md_judgeBlock_215 : decode jMd_judgeBlock.cc 215 = .ok (.getfield 478, 3) := by decide +kernel
theorem d_Md_judgeBlock_218 : decode jMd_judgeBlock.cc 218 = .ok (.iastore, 1) := by decide +kernel
theorem d_Md_judgeBlock_219 : decode jMd_judgeBlock.cc 219 = .ok (.aload_n 0, 1) := by decide +kernel
theorem d_Md_judgeBlock_220 : decode jMd_judgeBlock.cc 220 = .ok (.dup, 1) := by decide +kernel
theorem d_Md_judgeBlock_221 : decode jMd_judgeBlock.cc 221 = .ok (.getfield 478, 3) := by decide +kernel
theorem d_Md_judgeBlock_224 : decode jMd_judgeBlock.cc 224 = .ok (.iconst 1, 1) := by decide +kernel
theorem d_Md_judgeBlock_225 : decode jMd_judgeBlock.cc 225 = .ok (.iadd, 1) := by decide +kernel
theorem d_Md_judgeBlock_226 : decode jMd_judgeBlock.cc 226 = .ok (.putfield 478, 3) := by decide +kernel
theorem d_Md_judgeBlock_229 : decode jMd_judgeBlock.cc 229 = .ok (.goto 145, 3) := by decide +kernel
theorem d_Md_judgeBlock_232 : decode jMd_judgeBlock.cc 232 = .ok (.aload_n 0, 1) := by decide +kernel
theorem d_Md_judgeBlock_233 : decode jMd_judgeBlock.cc 233 = .ok (.getfield 188, 3) := by decide +kernel
theorem d_Md_judgeBlock_236 : decode jMd_judgeBlock.cc 236 = .ok (.iload_n 3, 1) := by decide +kernel
theorem d_Md_judgeBlock_237 : decode jMd_judgeBlock.cc 237 = .ok (.iaload, 1) := by decide +kernel
theorem d_Md_judgeBlock_238 : decode jMd_judgeBlock.cc 238 = .ok (.iconst 2, 1) := by decide +kernel
theorem d_Md_judgeBlock_239 : decode jMd_judgeBlock.cc 239 = .ok (.if_icmp .ne 7, 3) := by decide +kernel
theorem d_Md_judgeBlock_242 : decode jMd_judgeBlock.cc 242 = .ok (.iconst 2, 1) := by decide +kernel
theorem d_Md_judgeBlock_243 : decode jMd_judgeBlock.cc 243 = .ok (.goto 4, 3) := by decide +kernel
theorem d_Md_judgeBlock_246 : decode jMd_judgeBlock.cc 246 = .ok (.iconst 3, 1) := by decide +kernel
theorem d_Md_judgeBlock_247 : decode jMd_judgeBlock.cc 247 = .ok (.istore 8, 2) := by decide +kernel
theorem d_Md_judgeBlock_249 : decode jMd_judgeBlock.cc 249 = .ok (.iconst 2, 1) := by decide +kernel
theorem d_Md_judgeBlock_250 : decode jMd_judgeBlock.cc 250 = .ok (.istore 9, 2) := by decide +kernel
theorem d_Md_judgeBlock_252 : decode jMd_judgeBlock.cc 252 = .ok (.aload_n 0, 1) := by decide +kernel
theorem d_Md_judgeBlock_253 : decode jMd_judgeBlock.cc 253 = .ok (.iload 4, 2) := by decide +kernel
theorem d_Md_judgeBlock_255 : decode jMd_judgeBlock.cc 255 = .ok (.invokevirtual 484, 3) := by decide +kernel
theorem d_Md_judgeBlock_258 : decode jMd_judgeBlock.cc 258 = .ok (.ifCond .eq 12, 3) := by decide +kernel
theorem d_Md_judgeBlock_261 : decode jMd_judgeBlock.cc 261 = .ok (.aload_n 0, 1) := by decide +kernel
theorem d_Md_judgeBlock_262 : decode jMd_judgeBlock.cc 262 = .ok (.getfield 466, 3) := by decide +kernel
theorem d_Md_judgeBlock_265 : decode jMd_judgeBlock.cc 265 = .ok (.iload 8, 2) := by decide +kernel
theorem d_Md_judgeBlock_267 : decode jMd_judgeBlock.cc 267 = .ok (.if_icmp .eq 13, 3) := by decide +kernel
theorem d_Md_judgeBlock_270 : decode jMd_judgeBlock.cc 270 = .ok (.aload_n 0, 1) := by decide +kernel
theorem d_Md_judgeBlock_271 : decode jMd_judgeBlock.cc 271 = .ok (.iconst 4, 1) := by decide +kernel
theorem d_Md_judgeBlock_272 : decode jMd_judgeBlock.cc 272 = .ok (.iload 4, 2) := by decide +kernel
theorem d_Md_judgeBlock_274 : decode jMd_judgeBlock.cc 274 = .ok (.invokevirtual 481, 3) := by decide +kernel
theorem d_Md_judgeBlock_277 : decode jMd_judgeBlock.cc 277 = .ok (.goto 19, 3) := by decide +kernel
theorem d_Md_judgeBlock_280 : decode jMd_judgeBlock.cc 280 = .ok (.aload_n 0, 1) := by decide +kernel
theorem d_Md_judgeBlock_281 : decode jMd_judgeBlock.cc 281 = .ok (.getfield 475, 3) := by decide +kernel
theorem d_Md_judgeBlock_284 : decode jMd_judgeBlock.cc 284 = .ok (.istore 9, 2) := by decide +kernel
theorem d_Md_judgeBlock_286 : decode jMd_judgeBlock.cc 286 = .ok (.aload_n 0, 1) := by decide +kernel
theorem d_Md_judgeBlock_287 : decode jMd_judgeBlock.cc 287 = .ok (.getfield 209, 3) := by decide +kernel
theorem d_Md_judgeBlock_290 : decode jMd_judgeBlock.cc 290 = .ok (.iload_n 3, 1) := by decide +kernel
theorem d_Md_judgeBlock_291 : decode jMd_judgeBlock.cc 291 = .ok (.aload_n 0, 1) := by decide +kernel
theorem d_Md_judgeBlock_292 : decode jMd_judgeBlock.cc 292 = .ok (.getfield 472, 3) := by decide +kernel
theorem d_Md_judgeBlock_295 : decode jMd_judgeBlock.cc 295 = .ok (.iastore, 1) := by decide +kernel
theorem d_Md_judgeBlock_296 : decode jMd_judgeBlock.cc 296 = .ok (.aload_n 0, 1) := by decide +kernel
theorem d_Md_judgeBlock_297 : decode jMd_judgeBlock.cc 297 = .ok (.iload 5, 2) := by decide +kernel
theorem d_Md_judgeBlock_299 : decode jMd_judgeBlock.cc 299 = .ok (.aload_n 0, 1) := by decide +kernel
theorem d_Md_judgeBlock_300 : decode jMd_judgeBlock.cc 300 = .ok (.iload 5, 2) := by decide +kernel
theorem d_Md_judgeBlock_302 : decode jMd_judgeBlock.cc 302 = .ok (.iload 8, 2) := by decide +kernel
theorem d_Md_judgeBlock_304 : decode jMd_judgeBlock.cc 304 = .ok (.iconst 2, 1) := by decide +kernel
theorem d_Md_judgeBlock_305 : decode jMd_judgeBlock.cc 305 = .ok (.if_icmp .ne 7, 3) := by decide +kernel
theorem d_Md_judgeBlock_308 : decode jMd_judgeBlock.cc 308 = .ok (.iconst 1, 1) := by decide +kernel
theorem d_Md_judgeBlock_309 : decode jMd_judgeBlock.cc 309 = .ok (.goto 4, 3) := by decide +kernel
theorem d_Md_judgeBlock_312 : decode jMd_judgeBlock.cc 312 = .ok (.iconst 0, 1) := by decide +kernel
theorem d_Md_judgeBlock_313 : decode jMd_judgeBlock.cc 313 = .ok (.invokestatic 487, 3) := by decide +kernel
theorem d_Md_judgeBlock_316 : decode jMd_judgeBlock.cc 316 = .ok (.iload 9, 2) := by decide +kernel
theorem d_Md_judgeBlock_318 : decode jMd_judgeBlock.cc 318 = .ok (.invokevirtual 491, 3) := by decide +kernel
theorem d_Md_judgeBlock_321 : decode jMd_judgeBlock.cc 321 = .ok (.goto 53, 3) := by decide +kernel
theorem d_Md_judgeBlock_324 : decode jMd_judgeBlock.cc 324 = .ok (.aload_n 0, 1) := by decide +kernel
theorem d_Md_judgeBlock_325 : decode jMd_judgeBlock.cc 325 = .ok (.iload 5, 2) := by decide +kernel
theorem d_Md_judgeBlock_327 : decode jMd_judgeBlock.cc 327 = .ok (.aload_n 0, 1) := by decide +kernel
theorem d_Md_judgeBlock_328 : decode jMd_judgeBlock.cc 328 = .ok (.iload 5, 2) := by decide +kernel
theorem d_Md_judgeBlock_330 : decode jMd_judgeBlock.cc 330 = .ok (.iconst 0, 1) := by decide +kernel
theorem d_Md_judgeBlock_331 : decode jMd_judgeBlock.cc 331 = .ok (.invokestatic 487, 3) := by decide +kernel
theorem d_Md_judgeBlock_334 : decode jMd_judgeBlock.cc 334 = .ok (.iconst 1, 1) := by decide +kernel
theorem d_Md_judgeBlock_335 : decode jMd_judgeBlock.cc 335 = .ok (.invokevirtual 491, 3) := by decide +kernel
theorem d_Md_judgeBlock_338 : decode jMd_judgeBlock.cc 338 = .ok (.aload_n 0, 1) := by decide +kernel
theorem d_Md_judgeBlock_339 : decode jMd_judgeBlock.cc 339 = .ok (.aload_n 0, 1) := by decide +kernel
theorem d_Md_judgeBlock_340 : decode jMd_judgeBlock.cc 340 = .ok (.getfield 200, 3) := by decide +kernel
theorem d_Md_judgeBlock_343 : decode jMd_judgeBlock.cc 343 = .ok (.iload_n 3, 1) := by decide +kernel
theorem d_Md_judgeBlock_344 : decode jMd_judgeBlock.cc 344 = .ok (.iaload, 1) := by decide +kernel
theorem d_Md_judgeBlock_345 : decode jMd_judgeBlock.cc 345 = .ok (.invokestatic 502, 3) := by decide +kernel
theorem d_Md_judgeBlock_348 : decode jMd_judgeBlock.cc 348 = .ok (.aload_n 0, 1) := by decide +kernel
theorem d_Md_judgeBlock_349 : decode jMd_judgeBlock.cc 349 = .ok (.aload_n 0, 1) := by decide +kernel
theorem d_Md_judgeBlock_350 : decode jMd_judgeBlock.cc 350 = .ok (.getfield 203, 3) := by decide +kernel
theorem d_Md_judgeBlock_353 : decode jMd_judgeBlock.cc 353 = .ok (.iload_n 3, 1) := by decide +kernel
theorem d_Md_judgeBlock_354 : decode jMd_judgeBlock.cc 354 = .ok (.iaload, 1) := by decide +kernel
theorem d_Md_judgeBlock_355 : decode jMd_judgeBlock.cc 355 = .ok (.invokestatic 502, 3) := by decide +kernel
theorem d_Md_judgeBlock_358 : decode jMd_judgeBlock.cc 358 = .ok (.goto 16, 3) := by decide +kernel
theorem d_Md_judgeBlock_361 : decode jMd_judgeBlock.cc 361 = .ok (.aload_n 0, 1) := by decide +kernel
theorem d_Md_judgeBlock_362 : decode jMd_judgeBlock.cc 362 = .ok (.aload_n 0, 1) := by decide +kernel
theorem d_Md_judgeBlock_363 : decode jMd_judgeBlock.cc 363 = .ok (.getfield 200, 3) := by decide +kernel
theorem d_Md_judgeBlock_366 : decode jMd_judgeBlock.cc 366 = .ok (.iload_n 3, 1) := by decide +kernel
theorem d_Md_judgeBlock_367 : decode jMd_judgeBlock.cc 367 = .ok (.iaload, 1) := by decide +kernel
theorem d_Md_judgeBlock_368 : decode jMd_judgeBlock.cc 368 = .ok (.invokestatic 502, 3) := by decide +kernel
theorem d_Md_judgeBlock_371 : decode jMd_judgeBlock.cc 371 = .ok (.goto 3, 3) := by decide +kernel
theorem d_Md_judgeBlock_374 : decode jMd_judgeBlock.cc 374 = .ok (.aload_n 0, 1) := by decide +kernel
theorem d_Md_judgeBlock_375 : decode jMd_judgeBlock.cc 375 = .ok (.getfield 206, 3) := by decide +kernel
theorem d_Md_judgeBlock_378 : decode jMd_judgeBlock.cc 378 = .ok (.iload_n 3, 1) := by decide +kernel
theorem d_Md_judgeBlock_379 : decode jMd_judgeBlock.cc 379 = .ok (.iaload, 1) := by decide +kernel
theorem d_Md_judgeBlock_380 : decode jMd_judgeBlock.cc 380 = .ok (.istore_n 3, 1) := by decide +kernel
theorem d_Md_judgeBlock_381 : decode jMd_judgeBlock.cc 381 = .ok (.goto (-374), 3) := by decide +kernel
theorem d_Md_judgeBlock_384 : decode jMd_judgeBlock.cc 384 = .ok (.aload_n 0, 1) := by decide +kernel
theorem d_Md_judgeBlock_385 : decode jMd_judgeBlock.cc 385 = .ok (.iload_n 2, 1) := by decide +kernel
theorem d_Md_judgeBlock_386 : decode jMd_judgeBlock.cc 386 = .ok (.putfield 478, 3) := by decide +kernel
theorem d_Md_judgeBlock_389 : decode jMd_judgeBlock.cc 389 = .ok (.return_, 1) := by decide +kernel
set_option maxHeartbeats 4000000 in
theorem s_Md_judgeBlock {g : Mg} {d : Nat} {K : Ou → Wd → Prop} {w : Wd} {p1 : Int} (h : V g LM jMd_judgeBlock (d + 1) K 7 [(0, vA 0), (2, vI (w 0 50)), (3, vI p1)] [] w) : V g LM jMd_judgeBlock (d + 1) K 0 [(0, vA 0), (1, vI p1)] [] w := by
  refine v_aload_n (pc := 0) d_Md_judgeBlock_0 rfl (.head _) ?_
  refine v_geti (pc := 1) (x := (w 0 50)) d_Md_judgeBlock_1 fl_Md_478 cM_0.1 cM_0.2 (Or.inl rfl) rfl ?_
  refine v_istore_n (pc := 4) (ls' := [(2, vI (w 0 50)), (0, vA 0), (1, vI p1)]) d_Md_judgeBlock_4 rfl (by decide) rfl ?_
  refine v_iload_n (pc := 5) d_Md_judgeBlock_5 rfl (.tail _ (.tail _ (.head _))) ?_
  refine v_istore_n (pc := 6) (ls' := [(3, vI p1), (2, vI (w 0 50)), (0, vA 0), (1, vI p1)]) d_Md_judgeBlock_6 rfl (by decide) rfl ?_
  exact v_sub (List.forall_mem_cons.mpr ⟨(.tail _ (.tail _ (.head _))), (List.forall_mem_cons.mpr ⟨(.tail _ (.head _)), (List.forall_mem_cons.mpr ⟨(.head _), (fun _ z => absurd z List.not_mem_nil)⟩)⟩)⟩) h
set_option maxHeartbeats 4000000 in
theorem s_Md_judgeBlock_7 {g : Mg} {d : Nat} {K : Ou → Wd → Prop} {w : Wd} {x2_ : Int} {x3_ : Int} (h : (x3_ < 0 → (K (.inl none) (up w 0 50 x2_))) ∧ (¬ x3_ < 0 → ((0 ≤ x3_ ∧ x3_ < 130) ∧ ((0 ≤ x3_ ∧ x3_ < 130) ∧ ((0 ≤ x3_ ∧ x3_ < 130) ∧ ((((w 17 x3_.toNat) < 0 ∨ 5 < (w 17 x3_.toNat)) → (V g LM jMd_judgeBlock (d + 1) K 374 [(0, vA 0), (2, vI x2_), (3, vI x3_)] [] w)) ∧ ((w 17 x3_.toNat) = 0 → (Cal g LM jMd_find d [vA 0, vI (w 19 x3_.toNat)] w (fun o w1 => rIt o (fun b => K (.inr b) w1) (fun x2 => (x2 = 0 → (V g LM jMd_judgeBlock (d + 1) K 100 [(0, vA 0), (2, vI x2_), (3, vI x3_), (4, vI (w 19 x3_.toNat)), (5, vI (w 20 x3_.toNat)), (6, vI 2)] [] w1)) ∧ (¬ x2 = 0 → (((w1 0 51) = 1 → (V g LM jMd_judgeBlock (d + 1) K 110 [(0, vA 0), (2, vI x2_), (3, vI x3_), (5, vI (w 20 x3_.toNat))] [] w1)) ∧ (¬ (w1 0 51) = 1 → (((w1 0 51) = 4 → (V g LM jMd_judgeBlock (d + 1) K 110 [(0, vA 0), (2, vI x2_), (3, vI x3_), (5, vI (w 20 x3_.toNat))] [] w1)) ∧ (¬ (w1 0 51) = 4 → (V g LM jMd_judgeBlock (d + 1) K 100 [(0, vA 0), (2, vI x2_), (3, vI x3_), (4, vI (w 19 x3_.toNat)), (5, vI (w 20 x3_.toNat)), (6, vI 2)] [] w1)))))))))) ∧ ((w 17 x3_.toNat) = 1 → (Cal g LM jMd_judge d [vA 0, vI (w 20 x3_.toNat), vI 0] w (fun o w3 => rIt o (fun b => K (.inr b) w3) (fun x4 => Cal g LM jMd_find d [vA 0, vI (w 19 x3_.toNat)] w3 (fun o w5 => rIt o (fun b => K (.inr b) w5) (fun x6 => (x6 = 0 → (V g LM jMd_judgeBlock (d + 1) K 187 [(0, vA 0), (2, vI x2_), (3, vI x3_), (4, vI (w 19 x3_.toNat)), (7, vI x4)] [] w5)) ∧ (¬ x6 = 0 → (Cal g LM jMd_blame d [vA 0, vI 3, vI (w 19 x3_.toNat)] w5 (fun o w7 => rVt o (fun b => K (.inr b) w7) (V g LM jMd_judgeBlock (d + 1) K 187 [(0, vA 0), (2, vI x2_), (3, vI x3_), (4, vI (w 19 x3_.toNat)), (7, vI x4)] [] w7)))))))))) ∧ ((w 17 x3_.toNat) = 2 → ((0 ≤ x3_ ∧ x3_ < 130) ∧ ((¬ (w 17 x3_.toNat) = 2 → (V g LM jMd_judgeBlock (d + 1) K 247 [(0, vA 0), (2, vI x2_), (3, vI x3_), (4, vI (w 19 x3_.toNat)), (5, vI (w 20 x3_.toNat))] [vI 3] w)) ∧ ((w 17 x3_.toNat) = 2 → (V g LM jMd_judgeBlock (d + 1) K 247 [(0, vA 0), (2, vI x2_), (3, vI x3_), (4, vI (w 19 x3_.toNat)), (5, vI (w 20 x3_.toNat))] [vI 2] w))))) ∧ ((w 17 x3_.toNat) = 3 → ((0 ≤ x3_ ∧ x3_ < 130) ∧ ((¬ (w 17 x3_.toNat) = 2 → (V g LM jMd_judgeBlock (d + 1) K 247 [(0, vA 0), (2, vI x2_), (3, vI x3_), (4, vI (w 19 x3_.toNat)), (5, vI (w 20 x3_.toNat))] [vI 3] w)) ∧ ((w 17 x3_.toNat) = 2 → (V g LM jMd_judgeBlock (d + 1) K 247 [(0, vA 0), (2, vI x2_), (3, vI x3_), (4, vI (w 19 x3_.toNat)), (5, vI (w 20 x3_.toNat))] [vI 2] w))))) ∧ ((w 17 x3_.toNat) = 4 → (Cal g LM jMd_judge d [vA 0, vI (w 20 x3_.toNat), vI 0] w (fun o w8 => rIt o (fun b => K (.inr b) w8) (fun x9 => Cal g LM jMd_mustBe d [vA 0, vI (w 20 x3_.toNat), vI x9, vI 1] w8 (fun o w10 => rVt o (fun b => K (.inr b) w10) ((0 ≤ x3_ ∧ x3_ < 130) ∧ (Cal g LM jMd_judgeBlock d [vA 0, vI (w10 21 x3_.toNat)] w10 (fun o w11 => rVt o (fun b => K (.inr b) w11) ((0 ≤ x3_ ∧ x3_ < 130) ∧ (Cal g LM jMd_judgeBlock d [vA 0, vI (w11 22 x3_.toNat)] w11 (fun o w12 => rVt o (fun b => K (.inr b) w12) (V g LM jMd_judgeBlock (d + 1) K 374 [(0, vA 0), (2, vI x2_), (3, vI x3_)] [] w12)))))))))))) ∧ ((w 17 x3_.toNat) = 5 → ((0 ≤ x3_ ∧ x3_ < 130) ∧ (Cal g LM jMd_judgeBlock d [vA 0, vI (w 21 x3_.toNat)] w (fun o w13 => rVt o (fun b => K (.inr b) w13) (V g LM jMd_judgeBlock (d + 1) K 374 [(0, vA 0), (2, vI x2_), (3, vI x3_)] [] w13))))))))))) : V g LM jMd_judgeBlock (d + 1) K 7 [(0, vA 0), (2, vI x2_), (3, vI x3_)] [] w := by
  refine v_iload_n (pc := 7) d_Md_judgeBlock_7 rfl (.tail _ (.tail _ (.head _))) ?_
  refine v_iflt (pc := 8) (tgt := 384) d_Md_judgeBlock_8 (by decide) (fun c => ?_) (fun c => ?_)
  · replace h := h.1 c
    refine v_aload_n (pc := 384) d_Md_judgeBlock_384 rfl (.head _) ?_
    refine v_iload_n (pc := 385) d_Md_judgeBlock_385 rfl (.tail _ (.head _)) ?_
    refine v_puti (pc := 386) d_Md_judgeBlock_386 fp_Md_478 cM_0.1 cM_0.2 (by decide) rfl ?_
    exact v_vret (pc := 389) d_Md_judgeBlock_389 rfl h
  · replace h := h.2 c
    refine v_aload_n (pc := 11) d_Md_judgeBlock_11 rfl (.head _) ?_
    refine v_getr (C := "") (pc := 12) (r := 19) d_Md_judgeBlock_12 fl_Md_194 cM_0.1 cM_0.2 (Or.inr ⟨_, rfl⟩) rM_0_24 ?_
    refine v_iload_n (pc := 15) d_Md_judgeBlock_15 rfl (.tail _ (.tail _ (.head _))) ?_
    refine v_iald (pc := 16) (x := (w 19 x3_.toNat)) d_Md_judgeBlock_16 cM_19.1 cM_19.2 rfl h.1 ?_
    replace h := h.2
    refine v_istore (pc := 17) (ls' := [(4, vI (w 19 x3_.toNat)), (0, vA 0), (2, vI x2_), (3, vI x3_)]) d_Md_judgeBlock_17 (by decide) rfl ?_
    refine v_aload_n (pc := 19) d_Md_judgeBlock_19 rfl (.tail _ (.head _)) ?_
    refine v_getr (C := "") (pc := 20) (r := 20) d_Md_judgeBlock_20 fl_Md_197 cM_0.1 cM_0.2 (Or.inr ⟨_, rfl⟩) rM_0_25 ?_
    refine v_iload_n (pc := 23) d_Md_judgeBlock_23 rfl (.tail _ (.tail _ (.tail _ (.head _)))) ?_
    refine v_iald (pc := 24) (x := (w 20 x3_.toNat)) d_Md_judgeBlock_24 cM_20.1 cM_20.2 rfl h.1 ?_
    replace h := h.2
    refine v_istore (pc := 25) (ls' := [(5, vI (w 20 x3_.toNat)), (4, vI (w 19 x3_.toNat)), (0, vA 0), (2, vI x2_), (3, vI x3_)]) d_Md_judgeBlock_25 (by decide) rfl ?_
    refine v_aload_n (pc := 27) d_Md_judgeBlock_27 rfl (.tail _ (.tail _ (.head _))) ?_
    refine v_getr (C := "") (pc := 28) (r := 17) d_Md_judgeBlock_28 fl_Md_188 cM_0.1 cM_0.2 (Or.inr ⟨_, rfl⟩) rM_0_22 ?_
    refine v_iload_n (pc := 31) d_Md_judgeBlock_31 rfl (.tail _ (.tail _ (.tail _ (.tail _ (.head _))))) ?_
    refine v_iald (pc := 32) (x := (w 17 x3_.toNat)) d_Md_judgeBlock_32 cM_17.1 cM_17.2 rfl h.1 ?_
    replace h := h.2
    refine v_table (pc := 33) (tgd := 374) (tgs := [72, 162, 232, 232, 324, 361]) d_Md_judgeBlock_33 (by decide) (by decide) (by decide) (fun c => ?_) ⟨fun c => ?_, fun c => ?_, fun c => ?_, fun c => ?_, fun c => ?_, fun c => ?_, trivial⟩
    · replace h := h.1 c
      exact v_sub (List.forall_mem_cons.mpr ⟨(.tail _ (.tail _ (.head _))), (List.forall_mem_cons.mpr ⟨(.tail _ (.tail _ (.tail _ (.head _)))), (List.forall_mem_cons.mpr ⟨(.tail _ (.tail _ (.tail _ (.tail _ (.head _))))), (fun _ z => absurd z List.not_mem_nil)⟩)⟩)⟩) h
    · replace h := h.2.1 c
      refine v_iconst (pc := 72) d_Md_judgeBlock_72 (by decide) ?_
      refine v_istore (pc := 73) (ls' := [(6, vI 2), (5, vI (w 20 x3_.toNat)), (4, vI (w 19 x3_.toNat)), (0, vA 0), (2, vI x2_), (3, vI x3_)]) d_Md_judgeBlock_73 (by decide) rfl ?_
      refine v_aload_n (pc := 75) d_Md_judgeBlock_75 rfl (.tail _ (.tail _ (.tail _ (.head _)))) ?_
      refine v_iload (pc := 76) d_Md_judgeBlock_76 (.tail _ (.tail _ (.head _))) ?_
      refine v_callV (pc := 78) (J' := jMd_find) (d' := d) (o := 0) (ci := 13) (N := 93) (T := cT13) (As := [vI (w 19 x3_.toNat)]) d_Md_judgeBlock_78 ml_Md_484 cM_0.1 cM_0.2 (by decide) rfl rfl (Nat.le_of_ble_eq_true rfl) (Nat.le_refl _) rfl (Cal.weak h (fun o w1 h => ?_))
      rcases rIt_of h with ⟨x2, rfl, h⟩ | ⟨b, rfl, h⟩
      rotate_left
      · exact h
      refine v_ifeq (pc := 81) (tgt := 100) d_Md_judgeBlock_81 (by decide) (fun c => ?_) (fun c => ?_)
      · replace h := h.1 c
        exact v_sub (List.forall_mem_cons.mpr ⟨(.tail _ (.tail _ (.tail _ (.head _)))), (List.forall_mem_cons.mpr ⟨(.tail _ (.tail _ (.tail _ (.tail _ (.head _))))), (List.forall_mem_cons.mpr ⟨(.tail _ (.tail _ (.tail _ (.tail _ (.tail _ (.head _)))))), (List.forall_mem_cons.mpr ⟨(.tail _ (.tail _ (.head _))), (List.forall_mem_cons.mpr ⟨(.tail _ (.head _)), (List.forall_mem_cons.mpr ⟨(.head _), (fun _ z => absurd z List.not_mem_nil)⟩)⟩)⟩)⟩)⟩)⟩) h
      · replace h := h.2 c
        refine v_aload_n (pc := 84) d_Md_judgeBlock_84 rfl (.tail _ (.tail _ (.tail _ (.head _)))) ?_
        refine v_geti (pc := 85) (x := (w1 0 51)) d_Md_judgeBlock_85 fl_Md_466 cM_0.1 cM_0.2 (Or.inl rfl) rfl ?_
        refine v_iconst (pc := 88) d_Md_judgeBlock_88 (by decide) ?_
        refine v_icmpeq (pc := 89) (tgt := 110) d_Md_judgeBlock_89 (by decide) (fun c => ?_) (fun c => ?_)
        · replace h := h.1 c
          exact v_sub (List.forall_mem_cons.mpr ⟨(.tail _ (.tail _ (.tail _ (.head _)))), (List.forall_mem_cons.mpr ⟨(.tail _ (.tail _ (.tail _ (.tail _ (.head _))))), (List.forall_mem_cons.mpr ⟨(.tail _ (.tail _ (.tail _ (.tail _ (.tail _ (.head _)))))), (List.forall_mem_cons.mpr ⟨(.tail _ (.head _)), (fun _ z => absurd z List.not_mem_nil)⟩)⟩)⟩)⟩) h
        · replace h := h.2 c
          refine v_aload_n (pc := 92) d_Md_judgeBlock_92 rfl (.tail _ (.tail _ (.tail _ (.head _)))) ?_
          refine v_geti (pc := 93) (x := (w1 0 51)) d_Md_judgeBlock_93 fl_Md_466 cM_0.1 cM_0.2 (Or.inl rfl) rfl ?_
          refine v_iconst (pc := 96) d_Md_judgeBlock_96 (by decide) ?_
          refine v_icmpeq (pc := 97) (tgt := 110) d_Md_judgeBlock_97 (by decide) (fun c => ?_) (fun c => ?_)
          · replace h := h.1 c
            exact v_sub (List.forall_mem_cons.mpr ⟨(.tail _ (.tail _ (.tail _ (.head _)))), (List.forall_mem_cons.mpr ⟨(.tail _ (.tail _ (.tail _ (.tail _ (.head _))))), (List.forall_mem_cons.mpr ⟨(.tail _ (.tail _ (.tail _ (.tail _ (.tail _ (.head _)))))), (List.forall_mem_cons.mpr ⟨(.tail _ (.head _)), (fun _ z => absurd z List.not_mem_nil)⟩)⟩)⟩)⟩) h
          · replace h := h.2 c
            exact v_sub (List.forall_mem_cons.mpr ⟨(.tail _ (.tail _ (.tail _ (.head _)))), (List.forall_mem_cons.mpr ⟨(.tail _ (.tail _ (.tail _ (.tail _ (.head _))))), (List.forall_mem_cons.mpr ⟨(.tail _ (.tail _ (.tail _ (.tail _ (.tail _ (.head _)))))), (List.forall_mem_cons.mpr ⟨(.tail _ (.tail _ (.head _))), (List.forall_mem_cons.mpr ⟨(.tail _ (.head _)), (List.forall_mem_cons.mpr ⟨(.head _), (fun _ z => absurd z List.not_mem_nil)⟩)⟩)⟩)⟩)⟩)⟩) h
    · replace h := h.2.2.1 c
      refine v_aload_n (pc := 162) d_Md_judgeBlock_162 rfl (.tail _ (.tail _ (.head _))) ?_
      refine v_iload (pc := 163) d_Md_judgeBlock_163 (.head _) ?_
      refine v_iconst (pc := 165) d_Md_judgeBlock_165 (by decide) ?_
      refine v_callS (pc := 166) (J' := jMd_judge) (d' := d) (As := [vA 0, vI (w 20 x3_.toNat), vI 0]) d_Md_judgeBlock_166 ml_Md_487 rfl (Nat.le_of_ble_eq_true rfl) (Nat.le_refl _) rfl (Cal.weak h (fun o w3 h => ?_))
      rcases rIt_of h with ⟨x4, rfl, h⟩ | ⟨b, rfl, h⟩
      rotate_left
      · exact h
      refine v_istore (pc := 169) (ls' := [(7, vI x4), (5, vI (w 20 x3_.toNat)), (4, vI (w 19 x3_.toNat)), (0, vA 0), (2, vI x2_), (3, vI x3_)]) d_Md_judgeBlock_169 (by decide) rfl ?_
      refine v_aload_n (pc := 171) d_Md_judgeBlock_171 rfl (.tail _ (.tail _ (.tail _ (.head _)))) ?_
      refine v_iload (pc := 172) d_Md_judgeBlock_172 (.tail _ (.tail _ (.head _))) ?_
      refine v_callV (pc := 174) (J' := jMd_find) (d' := d) (o := 0) (ci := 13) (N := 93) (T := cT13) (As := [vI (w 19 x3_.toNat)]) d_Md_judgeBlock_174 ml_Md_484 cM_0.1 cM_0.2 (by decide) rfl rfl (Nat.le_of_ble_eq_true rfl) (Nat.le_refl _) rfl (Cal.weak h (fun o w5 h => ?_))
      rcases rIt_of h with ⟨x6, rfl, h⟩ | ⟨b, rfl, h⟩
      rotate_left
      · exact h
      refine v_ifeq (pc := 177) (tgt := 187) d_Md_judgeBlock_177 (by decide) (fun c => ?_) (fun c => ?_)
      · replace h := h.1 c
        exact v_sub (List.forall_mem_cons.mpr ⟨(.tail _ (.tail _ (.tail _ (.head _)))), (List.forall_mem_cons.mpr ⟨(.tail _ (.tail _ (.tail _ (.tail _ (.head _))))), (List.forall_mem_cons.mpr ⟨(.tail _ (.tail _ (.tail _ (.tail _ (.tail _ (.head _)))))), (List.forall_mem_cons.mpr ⟨(.tail _ (.tail _ (.head _))), (List.forall_mem_cons.mpr ⟨(.head _), (fun _ z => absurd z List.not_mem_nil)⟩)⟩)⟩)⟩)⟩) h
      · replace h := h.2 c
        refine v_aload_n (pc := 180) d_Md_judgeBlock_180 rfl (.tail _ (.tail _ (.tail _ (.head _)))) ?_
        refine v_iconst (pc := 181) d_Md_judgeBlock_181 (by decide) ?_
        refine v_iload (pc := 182) d_Md_judgeBlock_182 (.tail _ (.tail _ (.head _))) ?_
        refine v_callV (pc := 184) (J' := jMd_blame) (d' := d) (o := 0) (ci := 13) (N := 93) (T := cT13) (As := [vI 3, vI (w 19 x3_.toNat)]) d_Md_judgeBlock_184 ml_Md_481 cM_0.1 cM_0.2 (by decide) rfl rfl (Nat.le_of_ble_eq_true rfl) (Nat.le_refl _) rfl (Cal.weak h (fun o w7 h => ?_))
        rcases rVt_of h with ⟨rfl, h⟩ | ⟨b, rfl, h⟩
        rotate_left
        · exact h
        exact v_sub (List.forall_mem_cons.mpr ⟨(.tail _ (.tail _ (.tail _ (.head _)))), (List.forall_mem_cons.mpr ⟨(.tail _ (.tail _ (.tail _ (.tail _ (.head _))))), (List.forall_mem_cons.mpr ⟨(.tail _ (.tail _ (.tail _ (.tail _ (.tail _ (.head _)))))), (List.forall_mem_cons.mpr ⟨(.tail _ (.tail _ (.head _))), (List.forall_mem_cons.mpr ⟨(.head _), (fun _ z => absurd z List.not_mem_nil)⟩)⟩)⟩)⟩)⟩) h
    · replace h := h.2.2.2.1 c
      refine v_aload_n (pc := 232) d_Md_judgeBlock_232 rfl (.tail _ (.tail _ (.head _))) ?_
      refine v_getr (C := "") (pc := 233) (r := 17) d_Md_judgeBlock_233 fl_Md_188 cM_0.1 cM_0.2 (Or.inr ⟨_, rfl⟩) rM_0_22 ?_
      refine v_iload_n (pc := 236) d_Md_judgeBlock_236 rfl (.tail _ (.tail _ (.tail _ (.tail _ (.head _))))) ?_
      refine v_iald (pc := 237) (x := (w 17 x3_.toNat)) d_Md_judgeBlock_237 cM_17.1 cM_17.2 rfl h.1 ?_
      replace h := h.2
      refine v_iconst (pc := 238) d_Md_judgeBlock_238 (by decide) ?_
      refine v_icmpne (pc := 239) (tgt := 246) d_Md_judgeBlock_239 (by decide) (fun c => ?_) (fun c => ?_)
      · replace h := h.1 c
        refine v_iconst (pc := 246) d_Md_judgeBlock_246 (by decide) ?_
        exact v_sub (List.forall_mem_cons.mpr ⟨(.tail _ (.tail _ (.head _))), (List.forall_mem_cons.mpr ⟨(.tail _ (.tail _ (.tail _ (.head _)))), (List.forall_mem_cons.mpr ⟨(.tail _ (.tail _ (.tail _ (.tail _ (.head _))))), (List.forall_mem_cons.mpr ⟨(.tail _ (.head _)), (List.forall_mem_cons.mpr ⟨(.head _), (fun _ z => absurd z List.not_mem_nil)⟩)⟩)⟩)⟩)⟩) h
      · replace h := h.2 c
        refine v_iconst (pc := 242) d_Md_judgeBlock_242 (by decide) ?_
        refine v_goto (pc := 243) (tgt := 247) d_Md_judgeBlock_243 (by decide) ?_
        exact v_sub (List.forall_mem_cons.mpr ⟨(.tail _ (.tail _ (.head _))), (List.forall_mem_cons.mpr ⟨(.tail _ (.tail _ (.tail _ (.head _)))), (List.forall_mem_cons.mpr ⟨(.tail _ (.tail _ (.tail _ (.tail _ (.head _))))), (List.forall_mem_cons.mpr ⟨(.tail _ (.head _)), (List.forall_mem_cons.mpr ⟨(.head _), (fun _ z => absurd z List.not_mem_nil)⟩)⟩)⟩)⟩)⟩) h
    · replace h := h.2.2.2.2.1 c
      refine v_aload_n (pc := 232) d_Md_judgeBlock_232 rfl (.tail _ (.tail _ (.head _))) ?_
      refine v_getr (C := "") (pc := 233) (r := 17) d_Md_judgeBlock_233 fl_Md_188 cM_0.1 cM_0.2 (Or.inr ⟨_, rfl⟩) rM_0_22 ?_
      refine v_iload_n (pc := 236) d_Md_judgeBlock_236 rfl (.tail _ (.tail _ (.tail _ (.tail _ (.head _))))) ?_
      refine v_iald (pc := 237) (x := (w 17 x3_.toNat)) d_Md_judgeBlock_237 cM_17.1 cM_17.2 rfl h.1 ?_
      replace h := h.2
      refine v_iconst (pc := 238) d_Md_judgeBlock_238 (by decide) ?_
      refine v_icmpne (pc := 239) (tgt := 246) d_Md_judgeBlock_239 (by decide) (fun c => ?_) (fun c => ?_)
      · replace h := h.1 c
        refine v_iconst (pc := 246) d_Md_judgeBlock_246 (by decide) ?_
        exact v_sub (List.forall_mem_cons.mpr ⟨(.tail _ (.tail _ (.head _))), (List.forall_mem_cons.mpr ⟨(.tail _ (.tail _ (.tail _ (.head _)))), (List.forall_mem_cons.mpr ⟨(.tail _ (.tail _ (.tail _ (.tail _ (.head _))))), (List.forall_mem_cons.mpr ⟨(.tail _ (.head _)), (List.forall_mem_cons.mpr ⟨(.head _), (fun _ z => absurd z List.not_mem_nil)⟩)⟩)⟩)⟩)⟩) h
      · replace h := h.2 c
        refine v_iconst (pc := 242) d_Md_judgeBlock_242 (by decide) ?_
        refine v_goto (pc := 243) (tgt := 247) d_Md_judgeBlock_243 (by decide) ?_
        exact v_sub (List.forall_mem_cons.mpr ⟨(.tail _ (.tail _ (.head _))), (List.forall_mem_cons.mpr ⟨(.tail _ (.tail _ (.tail _ (.head _)))), (List.forall_mem_cons.mpr ⟨(.tail _ (.tail _ (.tail _ (.tail _ (.head _))))), (List.forall_mem_cons.mpr ⟨(.tail _ (.head _)), (List.forall_mem_cons.mpr ⟨(.head _), (fun _ z => absurd z List.not_mem_nil)⟩)⟩)⟩)⟩)⟩) h
    · replace h := h.2.2.2.2.2.1 c
      refine v_aload_n (pc := 324) d_Md_judgeBlock_324 rfl (.tail _ (.tail _ (.head _))) ?_
      refine v_iload (pc := 325) d_Md_judgeBlock_325 (.head _) ?_
      refine v_aload_n (pc := 327) d_Md_judgeBlock_327 rfl (.tail _ (.tail _ (.head _))) ?_
      refine v_iload (pc := 328) d_Md_judgeBlock_328 (.head _) ?_
      refine v_iconst (pc := 330) d_Md_judgeBlock_330 (by decide) ?_
      refine v_callS (pc := 331) (J' := jMd_judge) (d' := d) (As := [vA 0, vI (w 20 x3_.toNat), vI 0]) d_Md_judgeBlock_331 ml_Md_487 rfl (Nat.le_of_ble_eq_true rfl) (Nat.le_refl _) rfl (Cal.weak h (fun o w8 h => ?_))
      rcases rIt_of h with ⟨x9, rfl, h⟩ | ⟨b, rfl, h⟩
      rotate_left
      · exact h
      refine v_iconst (pc := 334) d_Md_judgeBlock_334 (by decide) ?_
      refine v_callV (pc := 335) (J' := jMd_mustBe) (d' := d) (o := 0) (ci := 13) (N := 93) (T := cT13) (As := [vI (w 20 x3_.toNat), vI x9, vI 1]) d_Md_judgeBlock_335 ml_Md_491 cM_0.1 cM_0.2 (by decide) rfl rfl (Nat.le_of_ble_eq_true rfl) (Nat.le_refl _) rfl (Cal.weak h (fun o w10 h => ?_))
      rcases rVt_of h with ⟨rfl, h⟩ | ⟨b, rfl, h⟩
      rotate_left
      · exact h
      refine v_aload_n (pc := 338) d_Md_judgeBlock_338 rfl (.tail _ (.tail _ (.head _))) ?_
      refine v_aload_n (pc := 339) d_Md_judgeBlock_339 rfl (.tail _ (.tail _ (.head _))) ?_
      refine v_getr (C := "") (pc := 340) (r := 21) d_Md_judgeBlock_340 fl_Md_200 cM_0.1 cM_0.2 (Or.inr ⟨_, rfl⟩) rM_0_26 ?_
      refine v_iload_n (pc := 343) d_Md_judgeBlock_343 rfl (.tail _ (.tail _ (.tail _ (.tail _ (.head _))))) ?_
      refine v_iald (pc := 344) (x := (w10 21 x3_.toNat)) d_Md_judgeBlock_344 cM_21.1 cM_21.2 rfl h.1 ?_
      replace h := h.2
      refine v_callS (pc := 345) (J' := jMd_judgeBlock) (d' := d) (As := [vA 0, vI (w10 21 x3_.toNat)]) d_Md_judgeBlock_345 ml_Md_502 rfl (Nat.le_of_ble_eq_true rfl) (Nat.le_refl _) rfl (Cal.weak h (fun o w11 h => ?_))
      rcases rVt_of h with ⟨rfl, h⟩ | ⟨b, rfl, h⟩
      rotate_left
      · exact h
      refine v_aload_n (pc := 348) d_Md_judgeBlock_348 rfl (.tail _ (.tail _ (.head _))) ?_
      refine v_aload_n (pc := 349) d_Md_judgeBlock_349 rfl (.tail _ (.tail _ (.head _))) ?_
      refine v_getr (C := "") (pc := 350) (r := 22) d_Md_judgeBlock_350 fl_Md_203 cM_0.1 cM_0.2 (Or.inr ⟨_, rfl⟩) rM_0_27 ?_
      refine v_iload_n (pc := 353) d_Md_judgeBlock_353 rfl (.tail _ (.tail _ (.tail _ (.tail _ (.head _))))) ?_
      refine v_iald (pc := 354) (x := (w11 22 x3_.toNat)) d_Md_judgeBlock_354 cM_22.1 cM_22.2 rfl h.1 ?_
      replace h := h.2
      refine v_callS (pc := 355) (J' := jMd_judgeBlock) (d' := d) (As := [vA 0, vI (w11 22 x3_.toNat)]) d_Md_judgeBlock_355 ml_Md_502 rfl (Nat.le_of_ble_eq_true rfl) (Nat.le_refl _) rfl (Cal.weak h (fun o w12 h => ?_))
      rcases rVt_of h with ⟨rfl, h⟩ | ⟨b, rfl, h⟩
      rotate_left
      · exact h
      refine v_goto (pc := 358) (tgt := 374) d_Md_judgeBlock_358 (by decide) ?_
      exact v_sub (List.forall_mem_cons.mpr ⟨(.tail _ (.tail _ (.head _))), (List.forall_mem_cons.mpr ⟨(.tail _ (.tail _ (.tail _ (.head _)))), (List.forall_mem_cons.mpr ⟨(.tail _ (.tail _ (.tail _ (.tail _ (.head _))))), (fun _ z => absurd z List.not_mem_nil)⟩)⟩)⟩) h
    · replace h := h.2.2.2.2.2.2 c
      refine v_aload_n (pc := 361) d_Md_judgeBlock_361 rfl (.tail _ (.tail _ (.head _))) ?_
      refine v_aload_n (pc := 362) d_Md_judgeBlock_362 rfl (.tail _ (.tail _ (.head _))) ?_
      refine v_getr (C := "") (pc := 363) (r := 21) d_Md_judgeBlock_363 fl_Md_200 cM_0.1 cM_0.2 (Or.inr ⟨_, rfl⟩) rM_0_26 ?_
      refine v_iload_n (pc := 366) d_Md_judgeBlock_366 rfl (.tail _ (.tail _ (.tail _ (.tail _ (.head _))))) ?_
      refine v_iald (pc := 367) (x := (w 21 x3_.toNat)) d_Md_judgeBlock_367 cM_21.1 cM_21.2 rfl h.1 ?_
      replace h := h.2
      refine v_callS (pc := 368) (J' := jMd_judgeBlock) (d' := d) (As := [vA 0, vI (w 21 x3_.toNat)]) d_Md_judgeBlock_368 ml_Md_502 rfl (Nat.le_of_ble_eq_true rfl) (Nat.le_refl _) rfl (Cal.weak h (fun o w13 h => ?_))
      rcases rVt_of h with ⟨rfl, h⟩ | ⟨b, rfl, h⟩
      rotate_left
      · exact h
      refine v_goto (pc := 371) (tgt := 374) d_Md_judgeBlock_371 (by decide) ?_
      exact v_sub (List.forall_mem_cons.mpr ⟨(.tail _ (.tail _ (.head _))), (List.forall_mem_cons.mpr ⟨(.tail _ (.tail _ (.tail _ (.head _)))), (List.forall_mem_cons.mpr ⟨(.tail _ (.tail _ (.tail _ (.tail _ (.head _))))), (fun _ z => absurd z List.not_mem_nil)⟩)⟩)⟩) h
set_option maxHeartbeats 4000000 in
theorem s_Md_judgeBlock_374 {g : Mg} {d : Nat} {K : Ou → Wd → Prop} {w : Wd} {x2_ : Int} {x3_ : Int} (h : (0 ≤ x3_ ∧ x3_ < 130) ∧ (V g LM jMd_judgeBlock (d + 1) K 7 [(0, vA 0), (2, vI x2_), (3, vI (w 23 x3_.toNat))] [] w)) : V g LM jMd_judgeBlock (d + 1) K 374 [(0, vA 0), (2, vI x2_), (3, vI x3_)] [] w := by
  refine v_aload_n (pc := 374) d_Md_judgeBlock_374 rfl (.head _) ?_
  refine v_getr (C := "") (pc := 375) (r := 23) d_Md_judgeBlock_375 fl_Md_206 cM_0.1 cM_0.2 (Or.inr ⟨_, rfl⟩) rM_0_28 ?_
  refine v_iload_n (pc := 378) d_Md_judgeBlock_378 rfl (.tail _ (.tail _ (.head _))) ?_
  refine v_iald (pc := 379) (x := (w 23 x3_.toNat)) d_Md_judgeBlock_379 cM_23.1 cM_23.2 rfl h.1 ?_
  replace h := h.2
  refine v_istore_n (pc := 380) (ls' := [(3, vI (w 23 x3_.toNat)), (0, vA 0), (2, vI x2_)]) d_Md_judgeBlock_380 rfl (by decide) rfl ?_
  refine v_goto (pc := 381) (tgt := 7) d_Md_judgeBlock_381 (by decide) ?_
  exact v_sub (List.forall_mem_cons.mpr ⟨(.tail _ (.head _)), (List.forall_mem_cons.mpr ⟨(.tail _ (.tail _ (.head _))), (List.forall_mem_cons.mpr ⟨(.head _), (fun _ z => absurd z List.not_mem_nil)⟩)⟩)⟩) h
set_option maxHeartbeats 4000000 in
theorem s_Md_judgeBlock_100 {g : Mg} {d : Nat} {K : Ou → Wd → Prop} {w : Wd} {x2_ : Int} {x3_ : Int} {x4_ : Int} {x5_ : Int} {x6_ : Int} (h : Cal g LM jMd_blame d [vA 0, vI 4, vI x4_] w (fun o w1 => rVt o (fun b => K (.inr b) w1) (V g LM jMd_judgeBlock (d + 1) K 144 [(0, vA 0), (2, vI x2_), (3, vI x3_), (5, vI x5_), (6, vI x6_)] [] w1))) : V g LM jMd_judgeBlock (d + 1) K 100 [(0, vA 0), (2, vI x2_), (3, vI x3_), (4, vI x4_), (5, vI x5_), (6, vI x6_)] [] w := by
  refine v_aload_n (pc := 100) d_Md_judgeBlock_100 rfl (.head _) ?_
  refine v_iconst (pc := 101) d_Md_judgeBlock_101 (by decide) ?_
  refine v_iload (pc := 102) d_Md_judgeBlock_102 (.tail _ (.tail _ (.tail _ (.head _)))) ?_
  refine v_callV (pc := 104) (J' := jMd_blame) (d' := d) (o := 0) (ci := 13) (N := 93) (T := cT13) (As := [vI 4, vI x4_]) d_Md_judgeBlock_104 ml_Md_481 cM_0.1 cM_0.2 (by decide) rfl rfl (Nat.le_of_ble_eq_true rfl) (Nat.le_refl _) rfl (Cal.weak h (fun o w1 h => ?_))
  rcases rVt_of h with ⟨rfl, h⟩ | ⟨b, rfl, h⟩
  rotate_left
  · exact h
  refine v_goto (pc := 107) (tgt := 144) d_Md_judgeBlock_107 (by decide) ?_
  exact v_sub (List.forall_mem_cons.mpr ⟨(.head _), (List.forall_mem_cons.mpr ⟨(.tail _ (.head _)), (List.forall_mem_cons.mpr ⟨(.tail _ (.tail _ (.head _))), (List.forall_mem_cons.mpr ⟨(.tail _ (.tail _ (.tail _ (.tail _ (.head _))))), (List.forall_mem_cons.mpr ⟨(.tail _ (.tail _ (.tail _ (.tail _ (.tail _ (.head _)))))), (fun _ z => absurd z List.not_mem_nil)⟩)⟩)⟩)⟩)⟩) h
set_option maxHeartbeats 4000000 in
theorem s_Md_judgeBlock_110 {g : Mg} {d : Nat} {K : Ou → Wd → Prop} {w : Wd} {x2_ : Int} {x3_ : Int} {x5_ : Int} (h : (¬ (w 0 51) = 1 → (V g LM jMd_judgeBlock (d + 1) K 143 [(0, vA 0), (2, vI x2_), (3, vI x3_), (5, vI x5_), (6, vI (w 0 53))] [vI (wr (100 + (w 0 52))), vI x3_, vA 24] w)) ∧ ((w 0 51) = 1 → (V g LM jMd_judgeBlock (d + 1) K 143 [(0, vA 0), (2, vI x2_), (3, vI x3_), (5, vI x5_), (6, vI (w 0 53))] [vI (w 0 52), vI x3_, vA 24] w))) : V g LM jMd_judgeBlock (d + 1) K 110 [(0, vA 0), (2, vI x2_), (3, vI x3_), (5, vI x5_)] [] w := by
  refine v_aload_n (pc := 110) d_Md_judgeBlock_110 rfl (.head _) ?_
  refine v_geti (pc := 111) (x := (w 0 53)) d_Md_judgeBlock_111 fl_Md_475 cM_0.1 cM_0.2 (Or.inl rfl) rfl ?_
  refine v_istore (pc := 114) (ls' := [(6, vI (w 0 53)), (0, vA 0), (2, vI x2_), (3, vI x3_), (5, vI x5_)]) d_Md_judgeBlock_114 (by decide) rfl ?_
  refine v_aload_n (pc := 116) d_Md_judgeBlock_116 rfl (.tail _ (.head _)) ?_
  refine v_getr (C := "") (pc := 117) (r := 24) d_Md_judgeBlock_117 fl_Md_209 cM_0.1 cM_0.2 (Or.inr ⟨_, rfl⟩) rM_0_29 ?_
  refine v_iload_n (pc := 120) d_Md_judgeBlock_120 rfl (.tail _ (.tail _ (.tail _ (.head _)))) ?_
  refine v_aload_n (pc := 121) d_Md_judgeBlock_121 rfl (.tail _ (.head _)) ?_
  refine v_geti (pc := 122) (x := (w 0 51)) d_Md_judgeBlock_122 fl_Md_466 cM_0.1 cM_0.2 (Or.inl rfl) rfl ?_
  refine v_iconst (pc := 125) d_Md_judgeBlock_125 (by decide) ?_
  refine v_icmpne (pc := 126) (tgt := 136) d_Md_judgeBlock_126 (by decide) (fun c => ?_) (fun c => ?_)
  · replace h := h.1 c
    refine v_bipush (pc := 136) d_Md_judgeBlock_136 (by decide) rfl ?_
    refine v_aload_n (pc := 138) d_Md_judgeBlock_138 rfl (.tail _ (.head _)) ?_
    refine v_geti (pc := 139) (x := (w 0 52)) d_Md_judgeBlock_139 fl_Md_472 cM_0.1 cM_0.2 (Or.inl rfl) rfl ?_
    refine v_iadd (pc := 142) d_Md_judgeBlock_142 ?_
    exact v_sub (List.forall_mem_cons.mpr ⟨(.tail _ (.head _)), (List.forall_mem_cons.mpr ⟨(.tail _ (.tail _ (.head _))), (List.forall_mem_cons.mpr ⟨(.tail _ (.tail _ (.tail _ (.head _)))), (List.forall_mem_cons.mpr ⟨(.tail _ (.tail _ (.tail _ (.tail _ (.head _))))), (List.forall_mem_cons.mpr ⟨(.head _), (fun _ z => absurd z List.not_mem_nil)⟩)⟩)⟩)⟩)⟩) h
  · replace h := h.2 c
    refine v_aload_n (pc := 129) d_Md_judgeBlock_129 rfl (.tail _ (.head _)) ?_
    refine v_geti (pc := 130) (x := (w 0 52)) d_Md_judgeBlock_130 fl_Md_472 cM_0.1 cM_0.2 (Or.inl rfl) rfl ?_
    refine v_goto (pc := 133) (tgt := 143) d_Md_judgeBlock_133 (by decide) ?_
    exact v_sub (List.forall_mem_cons.mpr ⟨(.tail _ (.head _)), (List.forall_mem_cons.mpr ⟨(.tail _ (.tail _ (.head _))), (List.forall_mem_cons.mpr ⟨(.tail _ (.tail _ (.tail _ (.head _)))), (List.forall_mem_cons.mpr ⟨(.tail _ (.tail _ (.tail _ (.tail _ (.head _))))), (List.forall_mem_cons.mpr ⟨(.head _), (fun _ z => absurd z List.not_mem_nil)⟩)⟩)⟩)⟩)⟩) h
set_option maxHeartbeats 4000000 in
theorem s_Md_judgeBlock_187 {g : Mg} {d : Nat} {K : Ou → Wd → Prop} {w : Wd} {x2_ : Int} {x3_ : Int} {x4_ : Int} {x7_ : Int} (h : (0 ≤ (w 0 50) ∧ (w 0 50) < 130) ∧ ((0 ≤ (w 0 50) ∧ (w 0 50) < 130) ∧ ((0 ≤ x3_ ∧ x3_ < 130) ∧ (V g LM jMd_judgeBlock (d + 1) K 374 [(0, vA 0), (2, vI x2_), (3, vI x3_)] [] (up (up (up (up w 34 ((w 0 50).toNat) x4_) 35 ((w 0 50).toNat) x7_) 24 (x3_.toNat) (w 0 50)) 0 50 (wr ((w 0 50) + 1))))))) : V g LM jMd_judgeBlock (d + 1) K 187 [(0, vA 0), (2, vI x2_), (3, vI x3_), (4, vI x4_), (7, vI x7_)] [] w := by
  refine v_aload_n (pc := 187) d_Md_judgeBlock_187 rfl (.head _) ?_
  refine v_getr (C := "") (pc := 188) (r := 34) d_Md_judgeBlock_188 fl_Md_240 cM_0.1 cM_0.2 (Or.inr ⟨_, rfl⟩) rM_0_48 ?_
  refine v_aload_n (pc := 191) d_Md_judgeBlock_191 rfl (.head _) ?_
  refine v_geti (pc := 192) (x := (w 0 50)) d_Md_judgeBlock_192 fl_Md_478 cM_0.1 cM_0.2 (Or.inl rfl) rfl ?_
  refine v_iload (pc := 195) d_Md_judgeBlock_195 (.tail _ (.tail _ (.tail _ (.head _)))) ?_
  refine v_iast (pc := 197) d_Md_judgeBlock_197 cM_34.1 cM_34.2 (aM_34 _) h.1 ?_
  replace h := h.2
  refine v_aload_n (pc := 198) d_Md_judgeBlock_198 rfl (.head _) ?_
  refine v_getr (C := "") (pc := 199) (r := 35) d_Md_judgeBlock_199 fl_Md_243 cM_0.1 cM_0.2 (Or.inr ⟨_, rfl⟩) rM_0_49 ?_
  refine v_aload_n (pc := 202) d_Md_judgeBlock_202 rfl (.head _) ?_
  refine v_geti (pc := 203) (x := (w 0 50)) d_Md_judgeBlock_203 fl_Md_478 cM_0.1 cM_0.2 (Or.inl rfl) rfl ?_
  refine v_iload (pc := 206) d_Md_judgeBlock_206 (.tail _ (.tail _ (.tail _ (.tail _ (.head _))))) ?_
  refine v_iast (pc := 208) d_Md_judgeBlock_208 cM_35.1 cM_35.2 (aM_35 _) h.1 ?_
  replace h := h.2
  refine v_aload_n (pc := 209) d_Md_judgeBlock_209 rfl (.head _) ?_
  refine v_getr (C := "") (pc := 210) (r := 24) d_Md_judgeBlock_210 fl_Md_209 cM_0.1 cM_0.2 (Or.inr ⟨_, rfl⟩) rM_0_29 ?_
  refine v_iload_n (pc := 213) d_Md_judgeBlock_213 rfl (.tail _ (.tail _ (.head _))) ?_
  refine v_aload_n (pc := 214) d_Md_judgeBlock_214 rfl (.head _) ?_
  refine v_geti (pc := 215) (x := (w 0 50)) d_Md_judgeBlock_215 fl_Md_478 cM_0.1 cM_0.2 (Or.inl rfl) rfl ?_
  refine v_iast (pc := 218) d_Md_judgeBlock_218 cM_24.1 cM_24.2 (aM_24 _) h.1 ?_
  replace h := h.2
  refine v_aload_n (pc := 219) d_Md_judgeBlock_219 rfl (.head _) ?_
  refine v_dup (pc := 220) d_Md_judgeBlock_220 rfl ?_
  refine v_geti (pc := 221) (x := (w 0 50)) d_Md_judgeBlock_221 fl_Md_478 cM_0.1 cM_0.2 (Or.inl rfl) rfl ?_
  refine v_iconst (pc := 224) d_Md_judgeBlock_224 (by decide) ?_
  refine v_iadd (pc := 225) d_Md_judgeBlock_225 ?_
  refine v_puti (pc := 226) d_Md_judgeBlock_226 fp_Md_478 cM_0.1 cM_0.2 (by decide) rfl ?_
  refine v_goto (pc := 229) (tgt := 374) d_Md_judgeBlock_229 (by decide) ?_
  exact v_sub (List.forall_mem_cons.mpr ⟨(.head _), (List.forall_mem_cons.mpr ⟨(.tail _ (.head _)), (List.forall_mem_cons.mpr ⟨(.tail _ (.tail _ (.head _))), (fun _ z => absurd z List.not_mem_nil)⟩)⟩)⟩) h
set_option maxHeartbeats 4000000 in
theorem s_Md_judgeBlock_247 {g : Mg} {d : Nat} {K : Ou → Wd → Prop} {w : Wd} {x2_ : Int} {x3_ : Int} {x4_ : Int} {x5_ : Int} {s0_ : Int} (h : Cal g LM jMd_find d [vA 0, vI x4_] w (fun o w1 => rIt o (fun b => K (.inr b) w1) (fun x2 => (x2 = 0 → (V g LM jMd_judgeBlock (d + 1) K 270 [(0, vA 0), (2, vI x2_), (3, vI x3_), (4, vI x4_), (5, vI x5_), (8, vI s0_), (9, vI 2)] [] w1)) ∧ (¬ x2 = 0 → (((w1 0 51) = s0_ → ((0 ≤ x3_ ∧ x3_ < 130) ∧ (V g LM jMd_judgeBlock (d + 1) K 296 [(0, vA 0), (2, vI x2_), (3, vI x3_), (5, vI x5_), (8, vI s0_), (9, vI (w1 0 53))] [] (up w1 24 (x3_.toNat) (w1 0 52))))) ∧ (¬ (w1 0 51) = s0_ → (V g LM jMd_judgeBlock (d + 1) K 270 [(0, vA 0), (2, vI x2_), (3, vI x3_), (4, vI x4_), (5, vI x5_), (8, vI s0_), (9, vI 2)] [] w1))))))) : V g LM jMd_judgeBlock (d + 1) K 247 [(0, vA 0), (2, vI x2_), (3, vI x3_), (4, vI x4_), (5, vI x5_)] [vI s0_] w := by
  refine v_istore (pc := 247) (ls' := [(8, vI s0_), (0, vA 0), (2, vI x2_), (3, vI x3_), (4, vI x4_), (5, vI x5_)]) d_Md_judgeBlock_247 (by decide) rfl ?_
  refine v_iconst (pc := 249) d_Md_judgeBlock_249 (by decide) ?_
  refine v_istore (pc := 250) (ls' := [(9, vI 2), (8, vI s0_), (0, vA 0), (2, vI x2_), (3, vI x3_), (4, vI x4_), (5, vI x5_)]) d_Md_judgeBlock_250 (by decide) rfl ?_
  refine v_aload_n (pc := 252) d_Md_judgeBlock_252 rfl (.tail _ (.tail _ (.head _))) ?_
  refine v_iload (pc := 253) d_Md_judgeBlock_253 (.tail _ (.tail _ (.tail _ (.tail _ (.tail _ (.head _)))))) ?_
  refine v_callV (pc := 255) (J' := jMd_find) (d' := d) (o := 0) (ci := 13) (N := 93) (T := cT13) (As := [vI x4_]) d_Md_judgeBlock_255 ml_Md_484 cM_0.1 cM_0.2 (by decide) rfl rfl (Nat.le_of_ble_eq_true rfl) (Nat.le_refl _) rfl (Cal.weak h (fun o w1 h => ?_))
  rcases rIt_of h with ⟨x2, rfl, h⟩ | ⟨b, rfl, h⟩
  rotate_left
  · exact h
  refine v_ifeq (pc := 258) (tgt := 270) d_Md_judgeBlock_258 (by decide) (fun c => ?_) (fun c => ?_)
  · replace h := h.1 c
    exact v_sub (List.forall_mem_cons.mpr ⟨(.tail _ (.tail _ (.head _))), (List.forall_mem_cons.mpr ⟨(.tail _ (.tail _ (.tail _ (.head _)))), (List.forall_mem_cons.mpr ⟨(.tail _ (.tail _ (.tail _ (.tail _ (.head _))))), (List.forall_mem_cons.mpr ⟨(.tail _ (.tail _ (.tail _ (.tail _ (.tail _ (.head _)))))), (List.forall_mem_cons.mpr ⟨(.tail _ (.tail _ (.tail _ (.tail _ (.tail _ (.tail _ (.head _))))))), (List.forall_mem_cons.mpr ⟨(.tail _ (.head _)), (List.forall_mem_cons.mpr ⟨(.head _), (fun _ z => absurd z List.not_mem_nil)⟩)⟩)⟩)⟩)⟩)⟩)⟩) h
  · replace h := h.2 c
    refine v_aload_n (pc := 261) d_Md_judgeBlock_261 rfl (.tail _ (.tail _ (.head _))) ?_
    refine v_geti (pc := 262) (x := (w1 0 51)) d_Md_judgeBlock_262 fl_Md_466 cM_0.1 cM_0.2 (Or.inl rfl) rfl ?_
    refine v_iload (pc := 265) d_Md_judgeBlock_265 (.tail _ (.head _)) ?_
    refine v_icmpeq (pc := 267) (tgt := 280) d_Md_judgeBlock_267 (by decide) (fun c => ?_) (fun c => ?_)
    · replace h := h.1 c
      refine v_aload_n (pc := 280) d_Md_judgeBlock_280 rfl (.tail _ (.tail _ (.head _))) ?_
      refine v_geti (pc := 281) (x := (w1 0 53)) d_Md_judgeBlock_281 fl_Md_475 cM_0.1 cM_0.2 (Or.inl rfl) rfl ?_
      refine v_istore (pc := 284) (ls' := [(9, vI (w1 0 53)), (8, vI s0_), (0, vA 0), (2, vI x2_), (3, vI x3_), (4, vI x4_), (5, vI x5_)]) d_Md_judgeBlock_284 (by decide) rfl ?_
      refine v_aload_n (pc := 286) d_Md_judgeBlock_286 rfl (.tail _ (.tail _ (.head _))) ?_
      refine v_getr (C := "") (pc := 287) (r := 24) d_Md_judgeBlock_287 fl_Md_209 cM_0.1 cM_0.2 (Or.inr ⟨_, rfl⟩) rM_0_29 ?_
      refine v_iload_n (pc := 290) d_Md_judgeBlock_290 rfl (.tail _ (.tail _ (.tail _ (.tail _ (.head _))))) ?_
      refine v_aload_n (pc := 291) d_Md_judgeBlock_291 rfl (.tail _ (.tail _ (.head _))) ?_
      refine v_geti (pc := 292) (x := (w1 0 52)) d_Md_judgeBlock_292 fl_Md_472 cM_0.1 cM_0.2 (Or.inl rfl) rfl ?_
      refine v_iast (pc := 295) d_Md_judgeBlock_295 cM_24.1 cM_24.2 (aM_24 _) h.1 ?_
      replace h := h.2
      exact v_sub (List.forall_mem_cons.mpr ⟨(.tail _ (.tail _ (.head _))), (List.forall_mem_cons.mpr ⟨(.tail _ (.tail _ (.tail _ (.head _)))), (List.forall_mem_cons.mpr ⟨(.tail _ (.tail _ (.tail _ (.tail _ (.head _))))), (List.forall_mem_cons.mpr ⟨(.tail _ (.tail _ (.tail _ (.tail _ (.tail _ (.tail _ (.head _))))))), (List.forall_mem_cons.mpr ⟨(.tail _ (.head _)), (List.forall_mem_cons.mpr ⟨(.head _), (fun _ z => absurd z List.not_mem_nil)⟩)⟩)⟩)⟩)⟩)⟩) h
    · replace h := h.2 c
      exact v_sub (List.forall_mem_cons.mpr ⟨(.tail _ (.tail _ (.head _))), (List.forall_mem_cons.mpr ⟨(.tail _ (.tail _ (.tail _ (.head _)))), (List.forall_mem_cons.mpr ⟨(.tail _ (.tail _ (.tail _ (.tail _ (.head _))))), (List.forall_mem_cons.mpr ⟨(.tail _ (.tail _ (.tail _ (.tail _ (.tail _ (.head _)))))), (List.forall_mem_cons.mpr ⟨(.tail _ (.tail _ (.tail _ (.tail _ (.tail _ (.tail _ (.head _))))))), (List.forall_mem_cons.mpr ⟨(.tail _ (.head _)), (List.forall_mem_cons.mpr ⟨(.head _), (fun _ z => absurd z List.not_mem_nil)⟩)⟩)⟩)⟩)⟩)⟩)⟩) h
set_option maxHeartbeats 4000000 in
theorem s_Md_judgeBlock_144 {g : Mg} {d : Nat} {K : Ou → Wd → Prop} {w : Wd} {x2_ : Int} {x3_ : Int} {x5_ : Int} {x6_ : Int} (h : Cal g LM jMd_judge d [vA 0, vI x5_, vI 0] w (fun o w1 => rIt o (fun b => K (.inr b) w1) (fun x2 => Cal g LM jMd_mustBe d [vA 0, vI x5_, vI x2, vI x6_] w1 (fun o w3 => rVt o (fun b => K (.inr b) w3) (V g LM jMd_judgeBlock (d + 1) K 374 [(0, vA 0), (2, vI x2_), (3, vI x3_)] [] w3))))) : V g LM jMd_judgeBlock (d + 1) K 144 [(0, vA 0), (2, vI x2_), (3, vI x3_), (5, vI x5_), (6, vI x6_)] [] w := by
  refine v_aload_n (pc := 144) d_Md_judgeBlock_144 rfl (.head _) ?_
  refine v_iload (pc := 145) d_Md_judgeBlock_145 (.tail _ (.tail _ (.tail _ (.head _)))) ?_
  refine v_aload_n (pc := 147) d_Md_judgeBlock_147 rfl (.head _) ?_
  refine v_iload (pc := 148) d_Md_judgeBlock_148 (.tail _ (.tail _ (.tail _ (.head _)))) ?_
  refine v_iconst (pc := 150) d_Md_judgeBlock_150 (by decide) ?_
  refine v_callS (pc := 151) (J' := jMd_judge) (d' := d) (As := [vA 0, vI x5_, vI 0]) d_Md_judgeBlock_151 ml_Md_487 rfl (Nat.le_of_ble_eq_true rfl) (Nat.le_refl _) rfl (Cal.weak h (fun o w1 h => ?_))
  rcases rIt_of h with ⟨x2, rfl, h⟩ | ⟨b, rfl, h⟩
  rotate_left
  · exact h
  refine v_iload (pc := 154) d_Md_judgeBlock_154 (.tail _ (.tail _ (.tail _ (.tail _ (.head _))))) ?_
  refine v_callV (pc := 156) (J' := jMd_mustBe) (d' := d) (o := 0) (ci := 13) (N := 93) (T := cT13) (As := [vI x5_, vI x2, vI x6_]) d_Md_judgeBlock_156 ml_Md_491 cM_0.1 cM_0.2 (by decide) rfl rfl (Nat.le_of_ble_eq_true rfl) (Nat.le_refl _) rfl (Cal.weak h (fun o w3 h => ?_))
  rcases rVt_of h with ⟨rfl, h⟩ | ⟨b, rfl, h⟩
  rotate_left
  · exact h
  refine v_goto (pc := 159) (tgt := 374) d_Md_judgeBlock_159 (by decide) ?_
  exact v_sub (List.forall_mem_cons.mpr ⟨(.head _), (List.forall_mem_cons.mpr ⟨(.tail _ (.head _)), (List.forall_mem_cons.mpr ⟨(.tail _ (.tail _ (.head _))), (fun _ z => absurd z List.not_mem_nil)⟩)⟩)⟩) h
set_option maxHeartbeats 4000000 in
theorem s_Md_judgeBlock_143 {g : Mg} {d : Nat} {K : Ou → Wd → Prop} {w : Wd} {x2_ : Int} {x3_ : Int} {x5_ : Int} {x6_ : Int} {s1_ : Int} {s2_ : Int} (h : (0 ≤ s1_ ∧ s1_ < 130) ∧ (V g LM jMd_judgeBlock (d + 1) K 144 [(0, vA 0), (2, vI x2_), (3, vI x3_), (5, vI x5_), (6, vI x6_)] [] (up w 24 (s1_.toNat) s2_))) : V g LM jMd_judgeBlock (d + 1) K 143 [(0, vA 0), (2, vI x2_), (3, vI x3_), (5, vI x5_), (6, vI x6_)] [vI s2_, vI s1_, vA 24] w := by
  refine v_iast (pc := 143) d_Md_judgeBlock_143 cM_24.1 cM_24.2 (aM_24 _) h.1 ?_
  replace h := h.2
  exact v_sub (List.forall_mem_cons.mpr ⟨(.head _), (List.forall_mem_cons.mpr ⟨(.tail _ (.head _)), (List.forall_mem_cons.mpr ⟨(.tail _ (.tail _ (.head _))), (List.forall_mem_cons.mpr ⟨(.tail _ (.tail _ (.tail _ (.head _)))), (List.forall_mem_cons.mpr ⟨(.tail _ (.tail _ (.tail _ (.tail _ (.head _))))), (fun _ z => absurd z List.not_mem_nil)⟩)⟩)⟩)⟩)⟩) h
set_option maxHeartbeats 4000000 in
theorem s_Md_judgeBlock_270 {g : Mg} {d : Nat} {K : Ou → Wd → Prop} {w : Wd} {x2_ : Int} {x3_ : Int} {x4_ : Int} {x5_ : Int} {x8_ : Int} {x9_ : Int} (h : Cal g LM jMd_blame d [vA 0, vI 4, vI x4_] w (fun o w1 => rVt o (fun b => K (.inr b) w1) (V g LM jMd_judgeBlock (d + 1) K 296 [(0, vA 0), (2, vI x2_), (3, vI x3_), (5, vI x5_), (8, vI x8_), (9, vI x9_)] [] w1))) : V g LM jMd_judgeBlock (d + 1) K 270 [(0, vA 0), (2, vI x2_), (3, vI x3_), (4, vI x4_), (5, vI x5_), (8, vI x8_), (9, vI x9_)] [] w := by
  refine v_aload_n (pc := 270) d_Md_judgeBlock_270 rfl (.head _) ?_
  refine v_iconst (pc := 271) d_Md_judgeBlock_271 (by decide) ?_
  refine v_iload (pc := 272) d_Md_judgeBlock_272 (.tail _ (.tail _ (.tail _ (.head _)))) ?_
  refine v_callV (pc := 274) (J' := jMd_blame) (d' := d) (o := 0) (ci := 13) (N := 93) (T := cT13) (As := [vI 4, vI x4_]) d_Md_judgeBlock_274 ml_Md_481 cM_0.1 cM_0.2 (by decide) rfl rfl (Nat.le_of_ble_eq_true rfl) (Nat.le_refl _) rfl (Cal.weak h (fun o w1 h => ?_))
  rcases rVt_of h with ⟨rfl, h⟩ | ⟨b, rfl, h⟩
  rotate_left
  · exact h
  refine v_goto (pc := 277) (tgt := 296) d_Md_judgeBlock_277 (by decide) ?_
  exact v_sub (List.forall_mem_cons.mpr ⟨(.head _), (List.forall_mem_cons.mpr ⟨(.tail _ (.head _)), (List.forall_mem_cons.mpr ⟨(.tail _ (.tail _ (.head _))), (List.forall_mem_cons.mpr ⟨(.tail _ (.tail _ (.tail _ (.tail _ (.head _))))), (List.forall_mem_cons.mpr ⟨(.tail _ (.tail _ (.tail _ (.tail _ (.tail _ (.head _)))))), (List.forall_mem_cons.mpr ⟨(.tail _ (.tail _ (.tail _ (.tail _ (.tail _ (.tail _ (.head _))))))), (fun _ z => absurd z List.not_mem_nil)⟩)⟩)⟩)⟩)⟩)⟩) h
set_option maxHeartbeats 4000000 in
theorem s_Md_judgeBlock_296 {g : Mg} {d : Nat} {K : Ou → Wd → Prop} {w : Wd} {x2_ : Int} {x3_ : Int} {x5_ : Int} {x8_ : Int} {x9_ : Int} (h : (¬ x8_ = 2 → (V g LM jMd_judgeBlock (d + 1) K 313 [(0, vA 0), (2, vI x2_), (3, vI x3_), (9, vI x9_)] [vI 0, vI x5_, vA 0, vI x5_, vA 0] w)) ∧ (x8_ = 2 → (V g LM jMd_judgeBlock (d + 1) K 313 [(0, vA 0), (2, vI x2_), (3, vI x3_), (9, vI x9_)] [vI 1, vI x5_, vA 0, vI x5_, vA 0] w))) : V g LM jMd_judgeBlock (d + 1) K 296 [(0, vA 0), (2, vI x2_), (3, vI x3_), (5, vI x5_), (8, vI x8_), (9, vI x9_)] [] w := by
  refine v_aload_n (pc := 296) d_Md_judgeBlock_296 rfl (.head _) ?_
  refine v_iload (pc := 297) d_Md_judgeBlock_297 (.tail _ (.tail _ (.tail _ (.head _)))) ?_
  refine v_aload_n (pc := 299) d_Md_judgeBlock_299 rfl (.head _) ?_
  refine v_iload (pc := 300) d_Md_judgeBlock_300 (.tail _ (.tail _ (.tail _ (.head _)))) ?_
  refine v_iload (pc := 302) d_Md_judgeBlock_302 (.tail _ (.tail _ (.tail _ (.tail _ (.head _))))) ?_
  refine v_iconst (pc := 304) d_Md_judgeBlock_304 (by decide) ?_
  refine v_icmpne (pc := 305) (tgt := 312) d_Md_judgeBlock_305 (by decide) (fun c => ?_) (fun c => ?_)
  · replace h := h.1 c
    refine v_iconst (pc := 312) d_Md_judgeBlock_312 (by decide) ?_
    exact v_sub (List.forall_mem_cons.mpr ⟨(.head _), (List.forall_mem_cons.mpr ⟨(.tail _ (.head _)), (List.forall_mem_cons.mpr ⟨(.tail _ (.tail _ (.head _))), (List.forall_mem_cons.mpr ⟨(.tail _ (.tail _ (.tail _ (.tail _ (.tail _ (.head _)))))), (fun _ z => absurd z List.not_mem_nil)⟩)⟩)⟩)⟩) h
  · replace h := h.2 c
    refine v_iconst (pc := 308) d_Md_judgeBlock_308 (by decide) ?_
    refine v_goto (pc := 309) (tgt := 313) d_Md_judgeBlock_309 (by decide) ?_
    exact v_sub (List.forall_mem_cons.mpr ⟨(.head _), (List.forall_mem_cons.mpr ⟨(.tail _ (.head _)), (List.forall_mem_cons.mpr ⟨(.tail _ (.tail _ (.head _))), (List.forall_mem_cons.mpr ⟨(.tail _ (.tail _ (.tail _ (.tail _ (.tail _ (.head _)))))), (fun _ z => absurd z List.not_mem_nil)⟩)⟩)⟩)⟩) h
set_option maxHeartbeats 4000000 in
theorem s_Md_judgeBlock_313 {g : Mg} {d : Nat} {K : Ou → Wd → Prop} {w : Wd} {x2_ : Int} {x3_ : Int} {x9_ : Int} {s1_ : Int} {s3_ : Int} {s4_ : Int} (h : Cal g LM jMd_judge d [vA 0, vI s3_, vI s4_] w (fun o w1 => rIt o (fun b => K (.inr b) w1) (fun x2 => Cal g LM jMd_mustBe d [vA 0, vI s1_, vI x2, vI x9_] w1 (fun o w3 => rVt o (fun b => K (.inr b) w3) (V g LM jMd_judgeBlock (d + 1) K 374 [(0, vA 0), (2, vI x2_), (3, vI x3_)] [] w3))))) : V g LM jMd_judgeBlock (d + 1) K 313 [(0, vA 0), (2, vI x2_), (3, vI x3_), (9, vI x9_)] [vI s4_, vI s3_, vA 0, vI s1_, vA 0] w := by
  refine v_callS (pc := 313) (J' := jMd_judge) (d' := d) (As := [vA 0, vI s3_, vI s4_]) d_Md_judgeBlock_313 ml_Md_487 rfl (Nat.le_of_ble_eq_true rfl) (Nat.le_refl _) rfl (Cal.weak h (fun o w1 h => ?_))
  rcases rIt_of h with ⟨x2, rfl, h⟩ | ⟨b, rfl, h⟩
  rotate_left
  · exact h
  refine v_iload (pc := 316) d_Md_judgeBlock_316 (.tail _ (.tail _ (.tail _ (.head _)))) ?_
  refine v_callV (pc := 318) (J' := jMd_mustBe) (d' := d) (o := 0) (ci := 13) (N := 93) (T := cT13) (As := [vI s1_, vI x2, vI x9_]) d_Md_judgeBlock_318 ml_Md_491 cM_0.1 cM_0.2 (by decide) rfl rfl (Nat.le_of_ble_eq_true rfl) (Nat.le_refl _) rfl (Cal.weak h (fun o w3 h => ?_))
  rcases rVt_of h with ⟨rfl, h⟩ | ⟨b, rfl, h⟩
  rotate_left
  · exact h
  refine v_goto (pc := 321) (tgt := 374) d_Md_judgeBlock_321 (by decide) ?_
  exact v_sub (List.forall_mem_cons.mpr ⟨(.head _), (List.forall_mem_cons.mpr ⟨(.tail _ (.head _)), (List.forall_mem_cons.mpr ⟨(.tail _ (.tail _ (.head _))), (fun _ z => absurd z List.not_mem_nil)⟩)⟩)⟩) h
theorem d_Md_judgeProgram_0 : decode jMd_judgeProgram.cc 0 = .ok (.aload_n 0, 1) := by decide +kernel
theorem d_Md_judgeProgram_1 : decode jMd_judgeProgram.cc 1 = .ok (.iconst 0, 1) := by decide +kernel
theorem d_Md_judgeProgram_2 : decode jMd_judgeProgram.cc 2 = .ok (.putfield 456, 3) := by decide +kernel
theorem d_Md_judgeProgram_5 : decode jMd_judgeProgram.cc 5 = .ok (.aload_n 0, 1) := by decide +kernel
theorem d_Md_judgeProgram_6 : decode jMd_judgeProgram.cc 6 = .ok (.iconst 0, 1) := by decide +kernel
theorem d_Md_judgeProgram_7 : decode jMd_judgeProgram.cc 7 = .ok (.putfield 478, 3) := by decide +kernel
theorem d_Md_judgeProgram_10 : decode jMd_judgeProgram.cc 10 = .ok (.iconst 0, 1) := by decide +kernel
theorem d_Md_judgeProgram_11 : decode jMd_judgeProgram.cc 11 = .ok (.istore_n 1, 1) := by decide +kernel
theorem d_Md_judgeProgram_12 : decode jMd_judgeProgram.cc 12 = .ok (.iload_n 1, 1) := by decide +kernel
theorem d_Md_judgeProgram_13 : decode jMd_judgeProgram.cc 13 = .ok (.aload_n 0, 1) := by decide +kernel
theorem d_Md_judgeProgram_14 : decode jMd_judgeProgram.cc 14 = .ok (.getfield 444, 3) := by decide +kernel
theorem d_Md_judgeProgram_17 : decode jMd_judgeProgram.cc 17 = .ok (.if_icmp .ge 16, 3) := by decide +kernel
theorem d_Md_judgeProgram_20 : decode jMd_judgeProgram.cc 20 = .ok (.aload_n 0, 1) := by decide +kernel
theorem d_Md_judgeProgram_21 : decode jMd_judgeProgram.cc 21 = .ok (.getfield 246, 3) := by decide +kernel
theorem d_Md_judgeProgram_24 : decode jMd_judgeProgram.cc 24 = .ok (.iload_n 1, 1) := by decide +kernel
theorem d_Md_judgeProgram_25 : decode jMd_judgeProgram.cc 25 = .ok (.iconst 0, 1) := by decide +kernel
theorem d_Md_judgeProgram_26 : decode jMd_judgeProgram.cc 26 = .ok (.bastore, 1) := by decide +kernel
theorem d_Md_judgeProgram_27 : decode jMd_judgeProgram.cc 27 = .ok (.iinc 1 1, 3) := by decide +kernel
theorem d_Md_judgeProgram_30 : decode jMd_judgeProgram.cc 30 = .ok (.goto (-18), 3) := by decide +kernel
theorem d_Md_judgeProgram_33 : decode jMd_judgeProgram.cc 33 = .ok (.iconst 0, 1) := by decide +kernel
theorem d_Md_judgeProgram_34 : decode jMd_judgeProgram.cc 34 = .ok (.istore_n 1, 1) := by decide +kernel
theorem d_Md_judgeProgram_35 : decode jMd_judgeProgram.cc 35 = .ok (.iload_n 1, 1) := by decide +kernel
theorem d_Md_judgeProgram_36 : decode jMd_judgeProgram.cc 36 = .ok (.aload_n 0, 1) := by decide +kernel
theorem d_Md_judgeProgram_37 : decode jMd_judgeProgram.cc 37 = .ok (.getfield 444, 3) := by decide +kernel
theorem d_Md_judgeProgram_40 : decode jMd_judgeProgram.cc 40 = .ok (.if_icmp .ge 40, 3) := by decide +kernel
theorem d_Md_judgeProgram_43 : decode jMd_judgeProgram.cc 43 = .ok (.aload_n 0, 1) := by decide +kernel
theorem d_Md_judgeProgram_44 : decode jMd_judgeProgram.cc 44 = .ok (.aload_n 0, 1) := by decide +kernel
theorem d_Md_judgeProgram_45 : decode jMd_judgeProgram.cc 45 = .ok (.getfield 170, 3) := by decide +kernel
theorem d_Md_judgeProgram_48 : decode jMd_judgeProgram.cc 48 = .ok (.iload_n 1, 1) := by decide +kernel
theorem d_Md_judgeProgram_49 : decode jMd_judgeProgram.cc 49 = .ok (.iaload, 1) := by decide +kernel
theorem d_Md_judgeProgram_50 : decode jMd_judgeProgram.cc 50 = .ok (.invokevirtual 484, 3) := by decide +kernel
theorem d_Md_judgeProgram_53 : decode jMd_judgeProgram.cc 53 = .ok (.ifCond .eq 14, 3) := by decide +kernel
theorem d_Md_judgeProgram_56 : decode jMd_judgeProgram.cc 56 = .ok (.aload_n 0, 1) := by decide +kernel
theorem d_Md_judgeProgram_57 : decode jMd_judgeProgram.cc 57 = .ok (.iconst 3, 1) := by decide +kernel
theorem d_Md_judgeProgram_58 : decode jMd_judgeProgram.cc 58 = .ok (.aload_n 0, 1) := by decide +kernel
theorem d_Md_judgeProgram_59 : decode jMd_judgeProgram.cc 59 = .ok (.getfield 170, 3) := by decide +kernel
theorem d_Md_judgeProgram_62 : decode jMd_judgeProgram.cc 62 = .ok (.iload_n 1, 1) := by decide +kernel
theorem d_Md_judgeProgram_63 : decode jMd_judgeProgram.cc 63 = .ok (.iaload, 1) := by decide +kernel
theorem d_Md_judgeProgram_64 : decode jMd_judgeProgram.cc 64 = .ok (.invokevirtual 481, 3) := by decide +kernel
theorem d_Md_judgeProgram_67 : decode jMd_judgeProgram.cc 67 = .ok (.aload_n 0, 1) := by decide +kernel
theorem d_Md_judgeProgram_68 : decode jMd_judgeProgram.cc 68 = .ok (.getfield 246, 3) := by decide +kernel
theorem d_Md_judgeProgram_71 : decode jMd_judgeProgram.cc 71 = .ok (.iload_n 1, 1) := by decide +kernel
theorem d_Md_judgeProgram_72 : decode jMd_judgeProgram.cc 72 = .ok (.iconst 1, 1) := by decide +kernel
theorem d_Md_judgeProgram_73 : decode jMd_judgeProgram.cc 73 = .ok (.bastore, 1) := by decide +kernel
theorem d_Md_judgeProgram_74 : decode jMd_judgeProgram.cc 74 = .ok (.iinc 1 1, 3) := by decide +kernel
theorem d_Md_judgeProgram_77 : decode jMd_judgeProgram.cc 77 = .ok (.goto (-42), 3) := by decide +kernel
theorem d_Md_judgeProgram_80 : decode jMd_judgeProgram.cc 80 = .ok (.aload_n 0, 1) := by decide +kernel
theorem d_Md_judgeProgram_81 : decode jMd_judgeProgram.cc 81 = .ok (.aload_n 0, 1) := by decide +kernel
theorem d_Md_judgeProgram_82 : decode jMd_judgeProgram.cc 82 = .ok (.getfield 450, 3) := by decide +kernel
theorem d_Md_judgeProgram_85 : decode jMd_judgeProgram.cc 85 = .ok (.invokestatic 502, 3) := by decide +kernel
theorem d_Md_judgeProgram_88 : decode jMd_judgeProgram.cc 88 = .ok (.aload_n 0, 1) := by decide +kernel
theorem d_Md_judgeProgram_89 : decode jMd_judgeProgram.cc 89 = .ok (.aload_n 0, 1) := by decide +kernel
theorem d_Md_judgeProgram_90 : decode jMd_judgeProgram.cc 90 = .ok (.getfield 453, 3) := by decide +kernel
theorem d_Md_judgeProgram_93 : decode jMd_judgeProgram.cc 93 = .ok (.invokestatic 502, 3) := by decide +kernel
theorem d_Md_judgeProgram_96 : decode jMd_judgeProgram.cc 96 = .ok (.aload_n 0, 1) := by decide +kernel
theorem d_Md_judgeProgram_97 : decode jMd_judgeProgram.cc 97 = .ok (.getfield 456, 3) := by decide +kernel
theorem d_Md_judgeProgram_100 : decode jMd_judgeProgram.cc 100 = .ok (.ifCond .le 15, 3) := by decide +kernel
theorem d_Md_judgeProgram_103 : decode jMd_judgeProgram.cc 103 = .ok (.aload_n 0, 1) := by decide +kernel
theorem d_Md_judgeProgram_104 : decode jMd_judgeProgram.cc 104 = .ok (.aload_n 0, 1) := by decide +kernel
theorem d_Md_judgeProgram_105 : decode jMd_judgeProgram.cc 105 = .ok (.getfield 456, 3) := by decide +kernel
theorem d_Md_judgeProgram_108 : decode jMd_judgeProgram.cc 108 = .ok (.aload_n 0, 1) := by decide +kernel
theorem d_Md_judgeProgram_109 : decode jMd_judgeProgram.cc 109 = .ok (.getfield 459, 3) := by decide +kernel
theorem d_Md_judgeProgram_112 : decode jMd_judgeProgram.cc 112 = .ok (.invokevirtual 370, 3) := by decide +kernel
theorem d_Md_judgeProgram_115 : decode jMd_judgeProgram.cc 115 = .ok (.return_, 1) := by decide +kernel
set_option maxHeartbeats 4000000 in
theorem s_Md_judgeProgram {g : Mg} {d : Nat} {K : Ou → Wd → Prop} {w : Wd} (h : V g LM jMd_judgeProgram (d + 1) K 12 [(0, vA 0), (1, vI 0)] [] (up (up w 0 46 0) 0 50 0)) : V g LM jMd_judgeProgram (d + 1) K 0 [(0, vA 0)] [] w := by
  refine v_aload_n (pc := 0) d_Md_judgeProgram_0 rfl (.head _) ?_
  refine v_iconst (pc := 1) d_Md_judgeProgram_1 (by decide) ?_
  refine v_puti (pc := 2) d_Md_judgeProgram_2 fp_Md_456 cM_0.1 cM_0.2 (by decide) rfl ?_
  refine v_aload_n (pc := 5) d_Md_judgeProgram_5 rfl (.head _) ?_
  refine v_iconst (pc := 6) d_Md_judgeProgram_6 (by decide) ?_
  refine v_puti (pc := 7) d_Md_judgeProgram_7 fp_Md_478 cM_0.1 cM_0.2 (by decide) rfl ?_
  refine v_iconst (pc := 10) d_Md_judgeProgram_10 (by decide) ?_
  refine v_istore_n (pc := 11) (ls' := [(1, vI 0), (0, vA 0)]) d_Md_judgeProgram_11 rfl (by decide) rfl ?_
  exact v_sub (List.forall_mem_cons.mpr ⟨(.tail _ (.head _)), (List.forall_mem_cons.mpr ⟨(.head _), (fun _ z => absurd z List.not_mem_nil)⟩)⟩) h
set_option maxHeartbeats 4000000 in
theorem s_Md_judgeProgram_12 {g : Mg} {d : Nat} {K : Ou → Wd → Prop} {w : Wd} {x1_ : Int} (h : ((w 0 20) ≤ x1_ → (V g LM jMd_judgeProgram (d + 1) K 35 [(0, vA 0), (1, vI 0)] [] w)) ∧ (¬ (w 0 20) ≤ x1_ → ((0 ≤ x1_ ∧ x1_ < 30) ∧ (V g LM jMd_judgeProgram (d + 1) K 12 [(0, vA 0), (1, vI (wr (x1_ + 1)))] [] (up w 36 (x1_.toNat) 0))))) : V g LM jMd_judgeProgram (d + 1) K 12 [(0, vA 0), (1, vI x1_)] [] w := by
  refine v_iload_n (pc := 12) d_Md_judgeProgram_12 rfl (.tail _ (.head _)) ?_
  refine v_aload_n (pc := 13) d_Md_judgeProgram_13 rfl (.head _) ?_
  refine v_geti (pc := 14) (x := (w 0 20)) d_Md_judgeProgram_14 fl_Md_444 cM_0.1 cM_0.2 (Or.inl rfl) rfl ?_
  refine v_icmpge (pc := 17) (tgt := 33) d_Md_judgeProgram_17 (by decide) (fun c => ?_) (fun c => ?_)
  · replace h := h.1 c
    refine v_iconst (pc := 33) d_Md_judgeProgram_33 (by decide) ?_
    refine v_istore_n (pc := 34) (ls' := [(1, vI 0), (0, vA 0)]) d_Md_judgeProgram_34 rfl (by decide) rfl ?_
    exact v_sub (List.forall_mem_cons.mpr ⟨(.tail _ (.head _)), (List.forall_mem_cons.mpr ⟨(.head _), (fun _ z => absurd z List.not_mem_nil)⟩)⟩) h
  · replace h := h.2 c
    refine v_aload_n (pc := 20) d_Md_judgeProgram_20 rfl (.head _) ?_
    refine v_getr (C := "") (pc := 21) (r := 36) d_Md_judgeProgram_21 fl_Md_246 cM_0.1 cM_0.2 (Or.inr ⟨_, rfl⟩) rM_0_54 ?_
    refine v_iload_n (pc := 24) d_Md_judgeProgram_24 rfl (.tail _ (.head _)) ?_
    refine v_iconst (pc := 25) d_Md_judgeProgram_25 (by decide) ?_
    refine v_zast (pc := 26) d_Md_judgeProgram_26 cM_36.1 cM_36.2 (aM_36 _) (by decide) h.1 ?_
    replace h := h.2
    refine v_iinc (pc := 27) (ls' := [(1, vI (wr (x1_ + 1))), (0, vA 0)]) d_Md_judgeProgram_27 (.tail _ (.head _)) (by decide) rfl ?_
    refine v_goto (pc := 30) (tgt := 12) d_Md_judgeProgram_30 (by decide) ?_
    exact v_sub (List.forall_mem_cons.mpr ⟨(.tail _ (.head _)), (List.forall_mem_cons.mpr ⟨(.head _), (fun _ z => absurd z List.not_mem_nil)⟩)⟩) h
set_option maxHeartbeats 4000000 in
theorem s_Md_judgeProgram_35 {g : Mg} {d : Nat} {K : Ou → Wd → Prop} {w : Wd} {x1_ : Int} (h : ((w 0 20) ≤ x1_ → (Cal g LM jMd_judgeBlock d [vA 0, vI (w 0 41)] w (fun o w1 => rVt o (fun b => K (.inr b) w1) (Cal g LM jMd_judgeBlock d [vA 0, vI (w1 0 42)] w1 (fun o w2 => rVt o (fun b => K (.inr b) w2) (((w2 0 46) ≤ 0 → (K (.inl none) w2)) ∧ (¬ (w2 0 46) ≤ 0 → (Cal g LM jMd_fail d [vA 0, vI (w2 0 46), vI (w2 0 47)] w2 (fun o w3 => rVt o (fun b => K (.inr b) w3) (K (.inl none) w3)))))))))) ∧ (¬ (w 0 20) ≤ x1_ → ((0 ≤ x1_ ∧ x1_ < 30) ∧ (Cal g LM jMd_find d [vA 0, vI (w 11 x1_.toNat)] w (fun o w4 => rIt o (fun b => K (.inr b) w4) (fun x5 => (x5 = 0 → ((0 ≤ x1_ ∧ x1_ < 30) ∧ (V g LM jMd_judgeProgram (d + 1) K 35 [(0, vA 0), (1, vI (wr (x1_ + 1)))] [] (up w4 36 (x1_.toNat) 1)))) ∧ (¬ x5 = 0 → ((0 ≤ x1_ ∧ x1_ < 30) ∧ (Cal g LM jMd_blame d [vA 0, vI 3, vI (w4 11 x1_.toNat)] w4 (fun o w6 => rVt o (fun b => K (.inr b) w6) ((0 ≤ x1_ ∧ x1_ < 30) ∧ (V g LM jMd_judgeProgram (d + 1) K 35 [(0, vA 0), (1, vI (wr (x1_ + 1)))] [] (up w6 36 (x1_.toNat) 1))))))))))))) : V g LM jMd_judgeProgram (d + 1) K 35 [(0, vA 0), (1, vI x1_)] [] w := by
  refine v_iload_n (pc := 35) d_Md_judgeProgram_35 rfl (.tail _ (.head _)) ?_
  refine v_aload_n (pc := 36) d_Md_judgeProgram_36 rfl (.head _) ?_
  refine v_geti (pc := 37) (x := (w 0 20)) d_Md_judgeProgram_37 fl_Md_444 cM_0.1 cM_0.2 (Or.inl rfl) rfl ?_
  refine v_icmpge (pc := 40) (tgt := 80) d_Md_judgeProgram_40 (by decide) (fun c => ?_) (fun c => ?_)
  · replace h := h.1 c
    refine v_aload_n (pc := 80) d_Md_judgeProgram_80 rfl (.head _) ?_
    refine v_aload_n (pc := 81) d_Md_judgeProgram_81 rfl (.head _) ?_
    refine v_geti (pc := 82) (x := (w 0 41)) d_Md_judgeProgram_82 fl_Md_450 cM_0.1 cM_0.2 (Or.inl rfl) rfl ?_
    refine v_callS (pc := 85) (J' := jMd_judgeBlock) (d' := d) (As := [vA 0, vI (w 0 41)]) d_Md_judgeProgram_85 ml_Md_502 rfl (Nat.le_of_ble_eq_true rfl) (Nat.le_refl _) rfl (Cal.weak h (fun o w1 h => ?_))
    rcases rVt_of h with ⟨rfl, h⟩ | ⟨b, rfl, h⟩
    rotate_left
    · exact h
    refine v_aload_n (pc := 88) d_Md_judgeProgram_88 rfl (.head _) ?_
    refine v_aload_n (pc := 89) d_Md_judgeProgram_89 rfl (.head _) ?_
    refine v_geti (pc := 90) (x := (w1 0 42)) d_Md_judgeProgram_90 fl_Md_453 cM_0.1 cM_0.2 (Or.inl rfl) rfl ?_
    refine v_callS (pc := 93) (J' := jMd_judgeBlock) (d' := d) (As := [vA 0, vI (w1 0 42)]) d_Md_judgeProgram_93 ml_Md_502 rfl (Nat.le_of_ble_eq_true rfl) (Nat.le_refl _) rfl (Cal.weak h (fun o w2 h => ?_))
    rcases rVt_of h with ⟨rfl, h⟩ | ⟨b, rfl, h⟩
    rotate_left
    · exact h
    refine v_aload_n (pc := 96) d_Md_judgeProgram_96 rfl (.head _) ?_
    refine v_geti (pc := 97) (x := (w2 0 46)) d_Md_judgeProgram_97 fl_Md_456 cM_0.1 cM_0.2 (Or.inl rfl) rfl ?_
    refine v_ifle (pc := 100) (tgt := 115) d_Md_judgeProgram_100 (by decide) (fun c => ?_) (fun c => ?_)
    · replace h := h.1 c
      exact v_vret (pc := 115) d_Md_judgeProgram_115 rfl h
    · replace h := h.2 c
      refine v_aload_n (pc := 103) d_Md_judgeProgram_103 rfl (.head _) ?_
      refine v_aload_n (pc := 104) d_Md_judgeProgram_104 rfl (.head _) ?_
      refine v_geti (pc := 105) (x := (w2 0 46)) d_Md_judgeProgram_105 fl_Md_456 cM_0.1 cM_0.2 (Or.inl rfl) rfl ?_
      refine v_aload_n (pc := 108) d_Md_judgeProgram_108 rfl (.head _) ?_
      refine v_geti (pc := 109) (x := (w2 0 47)) d_Md_judgeProgram_109 fl_Md_459 cM_0.1 cM_0.2 (Or.inl rfl) rfl ?_
      refine v_callV (pc := 112) (J' := jMd_fail) (d' := d) (o := 0) (ci := 13) (N := 93) (T := cT13) (As := [vI (w2 0 46), vI (w2 0 47)]) d_Md_judgeProgram_112 ml_Md_370 cM_0.1 cM_0.2 (by decide) rfl rfl (Nat.le_of_ble_eq_true rfl) (Nat.le_refl _) rfl (Cal.weak h (fun o w3 h => ?_))
      rcases rVt_of h with ⟨rfl, h⟩ | ⟨b, rfl, h⟩
      rotate_left
      · exact h
      exact v_vret (pc := 115) d_Md_judgeProgram_115 rfl h
  · replace h := h.2 c
    refine v_aload_n (pc := 43) d_Md_judgeProgram_43 rfl (.head _) ?_
    refine v_aload_n (pc := 44) d_Md_judgeProgram_44 rfl (.head _) ?_
    refine v_getr (C := "") (pc := 45) (r := 11) d_Md_judgeProgram_45 fl_Md_170 cM_0.1 cM_0.2 (Or.inr ⟨_, rfl⟩) rM_0_15 ?_
    refine v_iload_n (pc := 48) d_Md_judgeProgram_48 rfl (.tail _ (.head _)) ?_
    refine v_iald (pc := 49) (x := (w 11 x1_.toNat)) d_Md_judgeProgram_49 cM_11.1 cM_11.2 rfl h.1 ?_
    replace h := h.2
    refine v_callV (pc := 50) (J' := jMd_find) (d' := d) (o := 0) (ci := 13) (N := 93) (T := cT13) (As := [vI (w 11 x1_.toNat)]) d_Md_judgeProgram_50 ml_Md_484 cM_0.1 cM_0.2 (by decide) rfl rfl (Nat.le_of_ble_eq_true rfl) (Nat.le_refl _) rfl (Cal.weak h (fun o w4 h => ?_))
    rcases rIt_of h with ⟨x5, rfl, h⟩ | ⟨b, rfl, h⟩
    rotate_left
    · exact h
    refine v_ifeq (pc := 53) (tgt := 67) d_Md_judgeProgram_53 (by decide) (fun c => ?_) (fun c => ?_)
    · replace h := h.1 c
      refine v_aload_n (pc := 67) d_Md_judgeProgram_67 rfl (.head _) ?_
      refine v_getr (C := "") (pc := 68) (r := 36) d_Md_judgeProgram_68 fl_Md_246 cM_0.1 cM_0.2 (Or.inr ⟨_, rfl⟩) rM_0_54 ?_
      refine v_iload_n (pc := 71) d_Md_judgeProgram_71 rfl (.tail _ (.head _)) ?_
      refine v_iconst (pc := 72) d_Md_judgeProgram_72 (by decide) ?_
      refine v_zast (pc := 73) d_Md_judgeProgram_73 cM_36.1 cM_36.2 (aM_36 _) (by decide) h.1 ?_
      replace h := h.2
      refine v_iinc (pc := 74) (ls' := [(1, vI (wr (x1_ + 1))), (0, vA 0)]) d_Md_judgeProgram_74 (.tail _ (.head _)) (by decide) rfl ?_
      refine v_goto (pc := 77) (tgt := 35) d_Md_judgeProgram_77 (by decide) ?_
      exact v_sub (List.forall_mem_cons.mpr ⟨(.tail _ (.head _)), (List.forall_mem_cons.mpr ⟨(.head _), (fun _ z => absurd z List.not_mem_nil)⟩)⟩) h
    · replace h := h.2 c
      refine v_aload_n (pc := 56) d_Md_judgeProgram_56 rfl (.head _) ?_
      refine v_iconst (pc := 57) d_Md_judgeProgram_57 (by decide) ?_
      refine v_aload_n (pc := 58) d_Md_judgeProgram_58 rfl (.head _) ?_
      refine v_getr (C := "") (pc := 59) (r := 11) d_Md_judgeProgram_59 fl_Md_170 cM_0.1 cM_0.2 (Or.inr ⟨_, rfl⟩) rM_0_15 ?_
      refine v_iload_n (pc := 62) d_Md_judgeProgram_62 rfl (.tail _ (.head _)) ?_
      refine v_iald (pc := 63) (x := (w4 11 x1_.toNat)) d_Md_judgeProgram_63 cM_11.1 cM_11.2 rfl h.1 ?_
      replace h := h.2
      refine v_callV (pc := 64) (J' := jMd_blame) (d' := d) (o := 0) (ci := 13) (N := 93) (T := cT13) (As := [vI 3, vI (w4 11 x1_.toNat)]) d_Md_judgeProgram_64 ml_Md_481 cM_0.1 cM_0.2 (by decide) rfl rfl (Nat.le_of_ble_eq_true rfl) (Nat.le_refl _) rfl (Cal.weak h (fun o w6 h => ?_))
      rcases rVt_of h with ⟨rfl, h⟩ | ⟨b, rfl, h⟩
      rotate_left
      · exact h
      refine v_aload_n (pc := 67) d_Md_judgeProgram_67 rfl (.head _) ?_
      refine v_getr (C := "") (pc := 68) (r := 36) d_Md_judgeProgram_68 fl_Md_246 cM_0.1 cM_0.2 (Or.inr ⟨_, rfl⟩) rM_0_54 ?_
      refine v_iload_n (pc := 71) d_Md_judgeProgram_71 rfl (.tail _ (.head _)) ?_
      refine v_iconst (pc := 72) d_Md_judgeProgram_72 (by decide) ?_
      refine v_zast (pc := 73) d_Md_judgeProgram_73 cM_36.1 cM_36.2 (aM_36 _) (by decide) h.1 ?_
      replace h := h.2
      refine v_iinc (pc := 74) (ls' := [(1, vI (wr (x1_ + 1))), (0, vA 0)]) d_Md_judgeProgram_74 (.tail _ (.head _)) (by decide) rfl ?_
      refine v_goto (pc := 77) (tgt := 35) d_Md_judgeProgram_77 (by decide) ?_
      exact v_sub (List.forall_mem_cons.mpr ⟨(.tail _ (.head _)), (List.forall_mem_cons.mpr ⟨(.head _), (fun _ z => absurd z List.not_mem_nil)⟩)⟩) h
theorem d_Md_program_0 : decode jMd_program.cc 0 = .ok (.aload_n 0, 1) := by decide +kernel
theorem d_Md_program_1 : decode jMd_program.cc 1 = .ok (.iconst 0, 1) := by decide +kernel
theorem d_Md_program_2 : decode jMd_program.cc 2 = .ok (.putfield 1, 3) := by decide +kernel
theorem d_Md_program_5 : decode jMd_program.cc 5 = .ok (.aload_n 0, 1) := by decide +kernel
theorem d_Md_program_6 : decode jMd_program.cc 6 = .ok (.aload_n 0, 1) := by decide +kernel
theorem d_Md_program_7 : decode jMd_program.cc 7 = .ok (.getfield 307, 3) := by decide +kernel
theorem d_Md_program_10 : decode jMd_program.cc 10 = .ok (.putfield 339, 3) := by decide +kernel
theorem d_Md_program_13 : decode jMd_program.cc 13 = .ok (.iconst 0, 1) := by decide +kernel
theorem d_Md_program_14 : decode jMd_program.cc 14 = .ok (.istore_n 1, 1) := by decide +kernel
theorem d_Md_program_15 : decode jMd_program.cc 15 = .ok (.iload_n 1, 1) := by decide +kernel
theorem d_Md_program_16 : decode jMd_program.cc 16 = .ok (.aload_n 0, 1) := by decide +kernel
theorem d_Md_program_17 : decode jMd_program.cc 17 = .ok (.getfield 307, 3) := by decide +kernel
theorem d_Md_program_20 : decode jMd_program.cc 20 = .ok (.if_icmp .ge 21, 3) := by decide +kernel
theorem d_Md_program_23 : decode jMd_program.cc 23 = .ok (.aload_n 0, 1) := by decide +kernel
theorem d_Md_program_24 : decode jMd_program.cc 24 = .ok (.getfield 30, 3) := by decide +kernel
theorem d_Md_program_27 : decode jMd_program.cc 27 = .ok (.iload_n 1, 1) := by decide +kernel
theorem d_Md_program_28 : decode jMd_program.cc 28 = .ok (.aload_n 0, 1) := by decide +kernel
theorem d_Md_program_29 : decode jMd_program.cc 29 = .ok (.getfield 26, 3) := by decide +kernel
theorem d_Md_program_32 : decode jMd_program.cc 32 = .ok (.iload_n 1, 1) := by decide +kernel
theorem d_Md_program_33 : decode jMd_program.cc 33 = .ok (.baload, 1) := by decide +kernel
theorem d_Md_program_34 : decode jMd_program.cc 34 = .ok (.bastore, 1) := by decide +kernel
theorem d_Md_program_35 : decode jMd_program.cc 35 = .ok (.iinc 1 1, 3) := by decide +kernel
theorem d_Md_program_38 : decode jMd_program.cc 38 = .ok (.goto (-23), 3) := by decide +kernel
theorem d_Md_program_41 : decode jMd_program.cc 41 = .ok (.aload_n 0, 1) := by decide +kernel
theorem d_Md_program_42 : decode jMd_program.cc 42 = .ok (.iconst 0, 1) := by decide +kernel
theorem d_Md_program_43 : decode jMd_program.cc 43 = .ok (.putfield 307, 3) := by decide +kernel
theorem d_Md_program_46 : decode jMd_program.cc 46 = .ok (.aload_n 0, 1) := by decide +kernel
theorem d_Md_program_47 : decode jMd_program.cc 47 = .ok (.iconst 0, 1) := by decide +kernel
theorem d_Md_program_48 : decode jMd_program.cc 48 = .ok (.putfield 506, 3) := by decide +kernel
theorem d_Md_program_51 : decode jMd_program.cc 51 = .ok (.aload_n 0, 1) := by decide +kernel
theorem d_Md_program_52 : decode jMd_program.cc 52 = .ok (.iconst 0, 1) := by decide +kernel
theorem d_Md_program_53 : decode jMd_program.cc 53 = .ok (.putfield 510, 3) := by decide +kernel
theorem d_Md_program_56 : decode jMd_program.cc 56 = .ok (.aload_n 0, 1) := by decide +kernel
theorem d_Md_program_57 : decode jMd_program.cc 57 = .ok (.iconst 0, 1) := by decide +kernel
theorem d_Md_program_58 : decode jMd_program.cc 58 = .ok (.putfield 444, 3) := by decide +kernel
theorem d_Md_program_61 : decode jMd_program.cc 61 = .ok (.aload_n 0, 1) := by decide +kernel
theorem d_Md_program_62 : decode jMd_program.cc 62 = .ok (.iconst 0, 1) := by decide +kernel
theorem d_Md_program_63 : decode jMd_program.cc 63 = .ok (.putfield 436, 3) := by decide +kernel
theorem d_Md_program_66 : decode jMd_program.cc 66 = .ok (.aload_n 0, 1) := by decide +kernel
theorem d_Md_program_67 : decode jMd_program.cc 67 = .ok (.iconst 0, 1) := by decide +kernel
theorem d_Md_program_68 : decode jMd_program.cc 68 = .ok (.putfield 381, 3) := by decide +kernel
theorem d_Md_program_71 : decode jMd_program.cc 71 = .ok (.aload_n 0, 1) := by decide +kernel
theorem d_Md_program_72 : decode jMd_program.cc 72 = .ok (.iconst 0, 1) := by decide +kernel
theorem d_Md_program_73 : decode jMd_program.cc 73 = .ok (.putfield 388, 3) := by decide +kernel
theorem d_Md_program_76 : decode jMd_program.cc 76 = .ok (.aload_n 0, 1) := by decide +kernel
theorem d_Md_program_77 : decode jMd_program.cc 77 = .ok (.iconst 0, 1) := by decide +kernel
theorem d_Md_program_78 : decode jMd_program.cc 78 = .ok (.putfield 427, 3) := by decide +kernel
theorem d_Md_program_81 : decode jMd_program.cc 81 = .ok (.aload_n 0, 1) := by decide +kernel
theorem d_Md_program_82 : decode jMd_program.cc 82 = .ok (.iconst 0, 1) := by decide +kernel
theorem d_Md_program_83 : decode jMd_program.cc 83 = .ok (.putfield 363, 3) := by decide +kernel
theorem d_Md_program_86 : decode jMd_program.cc 86 = .ok (.iconst 0, 1) := by decide +kernel
theorem d_Md_program_87 : decode jMd_program.cc 87 = .ok (.istore_n 1, 1) := by decide +kernel
theorem d_Md_program_88 : decode jMd_program.cc 88 = .ok (.iload_n 1, 1) := by decide +kernel
theorem d_Md_program_89 : decode jMd_program.cc 89 = .ok (.iconst 5, 1) := by decide +kernel
theorem d_Md_program_90 : decode jMd_program.cc 90 = .ok (.if_icmp .ge 16, 3) := by decide +kernel
theorem d_Md_program_93 : decode jMd_program.cc 93 = .ok (.aload_n 0, 1) := by decide +kernel
theorem d_Md_program_94 : decode jMd_program.cc 94 = .ok (.getfield 185, 3) := by decide +kernel
theorem d_Md_program_97 : decode jMd_program.cc 97 = .ok (.iload_n 1, 1) := by decide +kernel
theorem d_Md_program_98 : decode jMd_program.cc 98 = .ok (.iconst 0, 1) := by decide +kernel
theorem d_Md_program_99 : decode jMd_program.cc 99 = .ok (.iastore, 1) := by decide +kernel
theorem d_Md_program_100 : decode jMd_program.cc 100 = .ok (.iinc 1 1, 3) := by decide +kernel
theorem d_Md_program_103 : decode jMd_program.cc 103 = .ok (.goto (-15), 3) := by decide +kernel
theorem d_Md_program_106 : decode jMd_program.cc 106 = .ok (.aload_n 0, 1) := by decide +kernel
theorem d_Md_program_107 : decode jMd_program.cc 107 = .ok (.invokevirtual 513, 3) := by decide +kernel
theorem d_Md_program_110 : decode jMd_program.cc 110 = .ok (.aload_n 0, 1) := by decide +kernel
theorem d_Md_program_111 : decode jMd_program.cc 111 = .ok (.bipush (-2), 2) := by decide +kernel
theorem d_Md_program_113 : decode jMd_program.cc 113 = .ok (.putfield 249, 3) := by decide +kernel
theorem d_Md_program_116 : decode jMd_program.cc 116 = .ok (.aload_n 0, 1) := by decide +kernel
theorem d_Md_program_117 : decode jMd_program.cc 117 = .ok (.bipush (-2), 2) := by decide +kernel
theorem d_Md_program_119 : decode jMd_program.cc 119 = .ok (.putfield 252, 3) := by decide +kernel
theorem d_Md_program_122 : decode jMd_program.cc 122 = .ok (.aload_n 0, 1) := by decide +kernel
theorem d_Md_program_123 : decode jMd_program.cc 123 = .ok (.invokevirtual 516, 3) := by decide +kernel
theorem d_Md_program_126 : decode jMd_program.cc 126 = .ok (.aload_n 0, 1) := by decide +kernel
theorem d_Md_program_127 : decode jMd_program.cc 127 = .ok (.invokevirtual 519, 3) := by decide +kernel
theorem d_Md_program_130 : decode jMd_program.cc 130 = .ok (.aload_n 0, 1) := by decide +kernel
theorem d_Md_program_131 : decode jMd_program.cc 131 = .ok (.iconst 1, 1) := by decide +kernel
theorem d_Md_program_132 : decode jMd_program.cc 132 = .ok (.putfield 506, 3) := by decide +kernel
theorem d_Md_program_135 : decode jMd_program.cc 135 = .ok (.aload_n 0, 1) := by decide +kernel
theorem d_Md_program_136 : decode jMd_program.cc 136 = .ok (.invokevirtual 522, 3) := by decide +kernel
theorem d_Md_program_139 : decode jMd_program.cc 139 = .ok (.aload_n 0, 1) := by decide +kernel
theorem d_Md_program_140 : decode jMd_program.cc 140 = .ok (.getfield 436, 3) := by decide +kernel
theorem d_Md_program_143 : decode jMd_program.cc 143 = .ok (.ireturn, 1) := by decide +kernel
theorem d_Md_program_144 : decode jMd_program.cc 144 = .ok (.astore_n 1, 1) := by decide +kernel
theorem d_Md_program_145 : decode jMd_program.cc 145 = .ok (.aload_n 0, 1) := by decide +kernel
theorem d_Md_program_146 : decode jMd_program.cc 146 = .ok (.iconst 0, 1) := by decide +kernel
theorem d_Md_program_147 : decode jMd_program.cc 147 = .ok (.putfield 444, 3) := by decide +kernel
theorem d_Md_program_150 : decode jMd_program.cc 150 = .ok (.aload_n 0, 1) := by decide +kernel
theorem d_Md_program_151 : decode jMd_program.cc 151 = .ok (.iconst 0, 1) := by decide +kernel
theorem d_Md_program_152 : decode jMd_program.cc 152 = .ok (.putfield 436, 3) := by decide +kernel
theorem d_Md_program_155 : decode jMd_program.cc 155 = .ok (.iconst 0, 1) := by decide +kernel
theorem d_Md_program_156 : decode jMd_program.cc 156 = .ok (.istore_n 2, 1) := by decide +kernel
theorem d_Md_program_157 : decode jMd_program.cc 157 = .ok (.iload_n 2, 1) := by decide +kernel
theorem d_Md_program_158 : decode jMd_program.cc 158 = .ok (.iconst 5, 1) := by decide +kernel
theorem d_Md_program_159 : decode jMd_program.cc 159 = .ok (.if_icmp .ge 16, 3) := by decide +kernel
theorem d_Md_program_162 : decode jMd_program.cc 162 = .ok (.aload_n 0, 1) := by decide +kernel
theorem d_Md_program_163 : decode jMd_program.cc 163 = .ok (.getfield 185, 3) := by decide +kernel
theorem d_Md_program_166 : decode jMd_program.cc 166 = .ok (.iload_n 2, 1) := by decide +kernel
theorem d_Md_program_167 : decode jMd_program.cc 167 = .ok (.iconst 0, 1) := by decide +kernel
theorem d_Md_program_168 : decode jMd_program.cc 168 = .ok (.iastore, 1) := by decide +kernel
theorem d_Md_program_169 : decode jMd_program.cc 169 = .ok (.iinc 2 1, 3) := by decide +kernel
theorem d_Md_program_172 : decode jMd_program.cc 172 = .ok (.goto (-15), 3) := by decide +kernel
theorem d_Md_program_175 : decode jMd_program.cc 175 = .ok (.aload_n 0, 1) := by decide +kernel
theorem d_Md_program_176 : decode jMd_program.cc 176 = .ok (.aload_n 1, 1) := by decide +kernel
theorem d_Md_program_177 : decode jMd_program.cc 177 = .ok (.getfield 16, 3) := by decide +kernel
theorem d_Md_program_180 : decode jMd_program.cc 180 = .ok (.putfield 249, 3) := by decide +kernel
theorem d_Md_program_183 : decode jMd_program.cc 183 = .ok (.aload_n 0, 1) := by decide +kernel
theorem d_Md_program_184 : decode jMd_program.cc 184 = .ok (.iconst 1, 1) := by decide +kernel
theorem d_Md_program_185 : decode jMd_program.cc 185 = .ok (.putfield 252, 3) := by decide +kernel
theorem d_Md_program_188 : decode jMd_program.cc 188 = .ok (.iconst 0, 1) := by decide +kernel
theorem d_Md_program_189 : decode jMd_program.cc 189 = .ok (.istore_n 2, 1) := by decide +kernel
theorem d_Md_program_190 : decode jMd_program.cc 190 = .ok (.iload_n 2, 1) := by decide +kernel
theorem d_Md_program_191 : decode jMd_program.cc 191 = .ok (.aload_n 1, 1) := by decide +kernel
theorem d_Md_program_192 : decode jMd_program.cc 192 = .ok (.getfield 16, 3) := by decide +kernel
theorem d_Md_program_195 : decode jMd_program.cc 195 = .ok (.if_icmp .ge 34, 3) := by decide +kernel
theorem d_Md_program_198 : decode jMd_program.cc 198 = .ok (.aload_n 0, 1) := by decide +kernel
theorem d_Md_program_199 : decode jMd_program.cc 199 = .ok (.aload_n 0, 1) := by decide +kernel
theorem d_Md_program_200 : decode jMd_program.cc 200 = .ok (.getfield 252, 3) := by decide +kernel
theorem d_Md_program_203 : decode jMd_program.cc 203 = .ok (.aload_n 0, 1) := by decide +kernel
theorem d_Md_program_204 : decode jMd_program.cc 204 = .ok (.getfield 30, 3) := by decide +kernel
theorem d_Md_program_207 : decode jMd_program.cc 207 = .ok (.iload_n 2, 1) := by decide +kernel
theorem d_Md_program_208 : decode jMd_program.cc 208 = .ok (.baload, 1) := by decide +kernel
theorem d_Md_program_209 : decode jMd_program.cc 209 = .ok (.bipush 10, 2) := by decide +kernel
theorem d_Md_program_211 : decode jMd_program.cc 211 = .ok (.if_icmp .ne 7, 3) := by decide +kernel
theorem d_Md_program_214 : decode jMd_program.cc 214 = .ok (.iconst 1, 1) := by decide +kernel
theorem d_Md_program_215 : decode jMd_program.cc 215 = .ok (.goto 4, 3) := by decide +kernel
theorem d_Md_program_218 : decode jMd_program.cc 218 = .ok (.iconst 0, 1) := by decide +kernel
theorem d_Md_program_219 : decode jMd_program.cc 219 = .ok (.iadd, 1) := by decide +kernel
theorem d_Md_program_220 : decode jMd_program.cc 220 = .ok (.putfield 252, 3) := by decide +kernel
theorem d_Md_program_223 : decode jMd_program.cc 223 = .ok (.iinc 2 1, 3) := by decide +kernel
theorem d_Md_program_226 : decode jMd_program.cc 226 = .ok (.goto (-36), 3) := by decide +kernel
theorem d_Md_program_229 : decode jMd_program.cc 229 = .ok (.bipush (-10), 2) := by decide +kernel
theorem d_Md_program_231 : decode jMd_program.cc 231 = .ok (.aload_n 1, 1) := by decide +kernel
theorem d_Md_program_232 : decode jMd_program.cc 232 = .ok (.getfield 11, 3) := by decide +kernel
theorem d_Md_program_235 : decode jMd_program.cc 235 = .ok (.isub, 1) := by decide +kernel
theorem d_Md_program_236 : decode jMd_program.cc 236 = .ok (.ireturn, 1) := by decide +kernel
set_option maxHeartbeats 4000000 in
theorem s_Md_program {g : Mg} {d : Nat} {K : Ou → Wd → Prop} {w : Wd} (h : V g LM jMd_program (d + 1) K 15 [(0, vA 0), (1, vI 0)] [] (up (up w 0 0 0) 0 5 (w 0 3))) : V g LM jMd_program (d + 1) K 0 [(0, vA 0)] [] w := by
  refine v_aload_n (pc := 0) d_Md_program_0 rfl (.head _) ?_
  refine v_iconst (pc := 1) d_Md_program_1 (by decide) ?_
  refine v_puti (pc := 2) d_Md_program_2 fp_Md_1 cM_0.1 cM_0.2 (by decide) rfl ?_
  refine v_aload_n (pc := 5) d_Md_program_5 rfl (.head _) ?_
  refine v_aload_n (pc := 6) d_Md_program_6 rfl (.head _) ?_
  refine v_geti (pc := 7) (x := (w 0 3)) d_Md_program_7 fl_Md_307 cM_0.1 cM_0.2 (Or.inl rfl) rfl ?_
  refine v_puti (pc := 10) d_Md_program_10 fp_Md_339 cM_0.1 cM_0.2 (by decide) rfl ?_
  refine v_iconst (pc := 13) d_Md_program_13 (by decide) ?_
  refine v_istore_n (pc := 14) (ls' := [(1, vI 0), (0, vA 0)]) d_Md_program_14 rfl (by decide) rfl ?_
  exact v_sub (List.forall_mem_cons.mpr ⟨(.tail _ (.head _)), (List.forall_mem_cons.mpr ⟨(.head _), (fun _ z => absurd z List.not_mem_nil)⟩)⟩) h
set_option maxHeartbeats 4000000 in
theorem s_Md_program_15 {g : Mg} {d : Nat} {K : Ou → Wd → Prop} {w : Wd} {x1_ : Int} (h : ((w 0 3) ≤ x1_ → (V g LM jMd_program (d + 1) K 88 [(0, vA 0), (1, vI 0)] [] (up (up (up (up (up (up (up (up (up w 0 3 0) 0 43 0) 0 64 0) 0 20 0) 0 31 0) 0 40 0) 0 44 0) 0 45 0) 0 11 0))) ∧ (¬ (w 0 3) ≤ x1_ → ((0 ≤ x1_ ∧ x1_ < 4020) ∧ ((0 ≤ x1_ ∧ x1_ < 4020) ∧ (V g LM jMd_program (d + 1) K 15 [(0, vA 0), (1, vI (wr (x1_ + 1)))] [] (up w 3 (x1_.toNat) (i2bF (w 2 x1_.toNat)))))))) : V g LM jMd_program (d + 1) K 15 [(0, vA 0), (1, vI x1_)] [] w := by
  refine v_iload_n (pc := 15) d_Md_program_15 rfl (.tail _ (.head _)) ?_
  refine v_aload_n (pc := 16) d_Md_program_16 rfl (.head _) ?_
  refine v_geti (pc := 17) (x := (w 0 3)) d_Md_program_17 fl_Md_307 cM_0.1 cM_0.2 (Or.inl rfl) rfl ?_
  refine v_icmpge (pc := 20) (tgt := 41) d_Md_program_20 (by decide) (fun c => ?_) (fun c => ?_)
  · replace h := h.1 c
    refine v_aload_n (pc := 41) d_Md_program_41 rfl (.head _) ?_
    refine v_iconst (pc := 42) d_Md_program_42 (by decide) ?_
    refine v_puti (pc := 43) d_Md_program_43 fp_Md_307 cM_0.1 cM_0.2 (by decide) rfl ?_
    refine v_aload_n (pc := 46) d_Md_program_46 rfl (.head _) ?_
    refine v_iconst (pc := 47) d_Md_program_47 (by decide) ?_
    refine v_putz (pc := 48) d_Md_program_48 fp_Md_506 cM_0.1 cM_0.2 (by decide) rfl (by decide) ?_
    refine v_aload_n (pc := 51) d_Md_program_51 rfl (.head _) ?_
    refine v_iconst (pc := 52) d_Md_program_52 (by decide) ?_
    refine v_putz (pc := 53) d_Md_program_53 fp_Md_510 cM_0.1 cM_0.2 (by decide) rfl (by decide) ?_
    refine v_aload_n (pc := 56) d_Md_program_56 rfl (.head _) ?_
    refine v_iconst (pc := 57) d_Md_program_57 (by decide) ?_
    refine v_puti (pc := 58) d_Md_program_58 fp_Md_444 cM_0.1 cM_0.2 (by decide) rfl ?_
    refine v_aload_n (pc := 61) d_Md_program_61 rfl (.head _) ?_
    refine v_iconst (pc := 62) d_Md_program_62 (by decide) ?_
    refine v_puti (pc := 63) d_Md_program_63 fp_Md_436 cM_0.1 cM_0.2 (by decide) rfl ?_
    refine v_aload_n (pc := 66) d_Md_program_66 rfl (.head _) ?_
    refine v_iconst (pc := 67) d_Md_program_67 (by decide) ?_
    refine v_puti (pc := 68) d_Md_program_68 fp_Md_381 cM_0.1 cM_0.2 (by decide) rfl ?_
    refine v_aload_n (pc := 71) d_Md_program_71 rfl (.head _) ?_
    refine v_iconst (pc := 72) d_Md_program_72 (by decide) ?_
    refine v_puti (pc := 73) d_Md_program_73 fp_Md_388 cM_0.1 cM_0.2 (by decide) rfl ?_
    refine v_aload_n (pc := 76) d_Md_program_76 rfl (.head _) ?_
    refine v_iconst (pc := 77) d_Md_program_77 (by decide) ?_
    refine v_puti (pc := 78) d_Md_program_78 fp_Md_427 cM_0.1 cM_0.2 (by decide) rfl ?_
    refine v_aload_n (pc := 81) d_Md_program_81 rfl (.head _) ?_
    refine v_iconst (pc := 82) d_Md_program_82 (by decide) ?_
    refine v_puti (pc := 83) d_Md_program_83 fp_Md_363 cM_0.1 cM_0.2 (by decide) rfl ?_
    refine v_iconst (pc := 86) d_Md_program_86 (by decide) ?_
    refine v_istore_n (pc := 87) (ls' := [(1, vI 0), (0, vA 0)]) d_Md_program_87 rfl (by decide) rfl ?_
    exact v_sub (List.forall_mem_cons.mpr ⟨(.tail _ (.head _)), (List.forall_mem_cons.mpr ⟨(.head _), (fun _ z => absurd z List.not_mem_nil)⟩)⟩) h
  · replace h := h.2 c
    refine v_aload_n (pc := 23) d_Md_program_23 rfl (.head _) ?_
    refine v_getr (C := "") (pc := 24) (r := 3) d_Md_program_24 fl_Md_30 cM_0.1 cM_0.2 (Or.inr ⟨_, rfl⟩) rM_0_4 ?_
    refine v_iload_n (pc := 27) d_Md_program_27 rfl (.tail _ (.head _)) ?_
    refine v_aload_n (pc := 28) d_Md_program_28 rfl (.head _) ?_
    refine v_getr (C := "") (pc := 29) (r := 2) d_Md_program_29 fl_Md_26 cM_0.1 cM_0.2 (Or.inr ⟨_, rfl⟩) rM_0_2 ?_
    refine v_iload_n (pc := 32) d_Md_program_32 rfl (.tail _ (.head _)) ?_
    refine v_bald (pc := 33) (x := (w 2 x1_.toNat)) d_Md_program_33 cM_2.1 cM_2.2 rfl h.1 ?_
    replace h := h.2
    refine v_bast (pc := 34) d_Md_program_34 cM_3.1 cM_3.2 (aM_3 _) h.1 ?_
    replace h := h.2
    refine v_iinc (pc := 35) (ls' := [(1, vI (wr (x1_ + 1))), (0, vA 0)]) d_Md_program_35 (.tail _ (.head _)) (by decide) rfl ?_
    refine v_goto (pc := 38) (tgt := 15) d_Md_program_38 (by decide) ?_
    exact v_sub (List.forall_mem_cons.mpr ⟨(.tail _ (.head _)), (List.forall_mem_cons.mpr ⟨(.head _), (fun _ z => absurd z List.not_mem_nil)⟩)⟩) h
set_option maxHeartbeats 4000000 in
theorem s_Md_program_88 {g : Mg} {d : Nat} {K : Ou → Wd → Prop} {w : Wd} {x1_ : Int} (h : (5 ≤ x1_ → (Cal g LM jMd_findTokens d [vA 0] w (fun o w1 => rVt o (fun b => K (.inr b) w1) (Cal g LM jMd_readProgram d [vA 0] (up (up w1 0 55 (-2)) 0 56 (-2)) (fun o w2 => rVt o (fun b => b = 1 ∧ V g LM jMd_program (d + 1) K 144 [(0, vA 0)] [vA 1] w2) (Cal g LM jMd_judgeProgram d [vA 0] w2 (fun o w3 => rVt o (fun b => b = 1 ∧ V g LM jMd_program (d + 1) K 144 [(0, vA 0)] [vA 1] w3) (Cal g LM jMd_printAll d [vA 0] (up w3 0 43 1) (fun o w4 => rVt o (fun b => b = 1 ∧ V g LM jMd_program (d + 1) K 144 [(0, vA 0)] [vA 1] w4) (K (.inl (some (vI (w4 0 31)))) w4)))))))))) ∧ (¬ 5 ≤ x1_ → ((0 ≤ x1_ ∧ x1_ < 5) ∧ (V g LM jMd_program (d + 1) K 88 [(0, vA 0), (1, vI (wr (x1_ + 1)))] [] (up w 16 (x1_.toNat) 0))))) : V g LM jMd_program (d + 1) K 88 [(0, vA 0), (1, vI x1_)] [] w := by
  refine v_iload_n (pc := 88) d_Md_program_88 rfl (.tail _ (.head _)) ?_
  refine v_iconst (pc := 89) d_Md_program_89 (by decide) ?_
  refine v_icmpge (pc := 90) (tgt := 106) d_Md_program_90 (by decide) (fun c => ?_) (fun c => ?_)
  · replace h := h.1 c
    refine v_aload_n (pc := 106) d_Md_program_106 rfl (.head _) ?_
    refine v_callV (pc := 107) (J' := jMd_findTokens) (d' := d) (o := 0) (ci := 13) (N := 93) (T := cT13) (As := []) d_Md_program_107 ml_Md_513 cM_0.1 cM_0.2 (by decide) rfl rfl (Nat.le_of_ble_eq_true rfl) (Nat.le_refl _) rfl (Cal.weak h (fun o w1 h => ?_))
    rcases rVt_of h with ⟨rfl, h⟩ | ⟨b, rfl, h⟩
    rotate_left
    · exact h
    refine v_aload_n (pc := 110) d_Md_program_110 rfl (.head _) ?_
    refine v_bipush (pc := 111) d_Md_program_111 (by decide) rfl ?_
    refine v_puti (pc := 113) d_Md_program_113 fp_Md_249 cM_0.1 cM_0.2 (by decide) rfl ?_
    refine v_aload_n (pc := 116) d_Md_program_116 rfl (.head _) ?_
    refine v_bipush (pc := 117) d_Md_program_117 (by decide) rfl ?_
    refine v_puti (pc := 119) d_Md_program_119 fp_Md_252 cM_0.1 cM_0.2 (by decide) rfl ?_
    refine v_aload_n (pc := 122) d_Md_program_122 rfl (.head _) ?_
    refine v_callVH (pc := 123) (J' := jMd_readProgram) (d' := d) (o := 0) (ci := 13) (N := 93) (T := cT13) (As := []) d_Md_program_123 ml_Md_516 cM_0.1 cM_0.2 (by decide) rfl rfl (Nat.le_of_ble_eq_true rfl) (Nat.le_refl _) rfl (by decide) (by decide) cl_stop (ci2 := 12) (T2 := cT12) (N2 := 2) rfl (by decide) (Cal.weak h (fun o w2 h => ?_))
    rcases rVt_of h with ⟨rfl, h⟩ | ⟨b, rfl, h⟩
    rotate_left
    · obtain ⟨rfl, h2⟩ := h; exact ⟨cM_1, v_sub (List.forall_mem_cons.mpr ⟨(.head _), (fun _ z => absurd z List.not_mem_nil)⟩) h2⟩
    refine v_aload_n (pc := 126) d_Md_program_126 rfl (.head _) ?_
    refine v_callVH (pc := 127) (J' := jMd_judgeProgram) (d' := d) (o := 0) (ci := 13) (N := 93) (T := cT13) (As := []) d_Md_program_127 ml_Md_519 cM_0.1 cM_0.2 (by decide) rfl rfl (Nat.le_of_ble_eq_true rfl) (Nat.le_refl _) rfl (by decide) (by decide) cl_stop (ci2 := 12) (T2 := cT12) (N2 := 2) rfl (by decide) (Cal.weak h (fun o w3 h => ?_))
    rcases rVt_of h with ⟨rfl, h⟩ | ⟨b, rfl, h⟩
    rotate_left
    · obtain ⟨rfl, h2⟩ := h; exact ⟨cM_1, v_sub (List.forall_mem_cons.mpr ⟨(.head _), (fun _ z => absurd z List.not_mem_nil)⟩) h2⟩
    refine v_aload_n (pc := 130) d_Md_program_130 rfl (.head _) ?_
    refine v_iconst (pc := 131) d_Md_program_131 (by decide) ?_
    refine v_putz (pc := 132) d_Md_program_132 fp_Md_506 cM_0.1 cM_0.2 (by decide) rfl (by decide) ?_
    refine v_aload_n (pc := 135) d_Md_program_135 rfl (.head _) ?_
    refine v_callVH (pc := 136) (J' := jMd_printAll) (d' := d) (o := 0) (ci := 13) (N := 93) (T := cT13) (As := []) d_Md_program_136 ml_Md_522 cM_0.1 cM_0.2 (by decide) rfl rfl (Nat.le_of_ble_eq_true rfl) (Nat.le_refl _) rfl (by decide) (by decide) cl_stop (ci2 := 12) (T2 := cT12) (N2 := 2) rfl (by decide) (Cal.weak h (fun o w4 h => ?_))
    rcases rVt_of h with ⟨rfl, h⟩ | ⟨b, rfl, h⟩
    rotate_left
    · obtain ⟨rfl, h2⟩ := h; exact ⟨cM_1, v_sub (List.forall_mem_cons.mpr ⟨(.head _), (fun _ z => absurd z List.not_mem_nil)⟩) h2⟩
    refine v_aload_n (pc := 139) d_Md_program_139 rfl (.head _) ?_
    refine v_geti (pc := 140) (x := (w4 0 31)) d_Md_program_140 fl_Md_436 cM_0.1 cM_0.2 (Or.inl rfl) rfl ?_
    exact v_iret (pc := 143) d_Md_program_143 rfl h
  · replace h := h.2 c
    refine v_aload_n (pc := 93) d_Md_program_93 rfl (.head _) ?_
    refine v_getr (C := "") (pc := 94) (r := 16) d_Md_program_94 fl_Md_185 cM_0.1 cM_0.2 (Or.inr ⟨_, rfl⟩) rM_0_21 ?_
    refine v_iload_n (pc := 97) d_Md_program_97 rfl (.tail _ (.head _)) ?_
    refine v_iconst (pc := 98) d_Md_program_98 (by decide) ?_
    refine v_iast (pc := 99) d_Md_program_99 cM_16.1 cM_16.2 (aM_16 _) h.1 ?_
    replace h := h.2
    refine v_iinc (pc := 100) (ls' := [(1, vI (wr (x1_ + 1))), (0, vA 0)]) d_Md_program_100 (.tail _ (.head _)) (by decide) rfl ?_
    refine v_goto (pc := 103) (tgt := 88) d_Md_program_103 (by decide) ?_
    exact v_sub (List.forall_mem_cons.mpr ⟨(.tail _ (.head _)), (List.forall_mem_cons.mpr ⟨(.head _), (fun _ z => absurd z List.not_mem_nil)⟩)⟩) h
set_option maxHeartbeats 4000000 in
theorem s_Md_program_144 {g : Mg} {d : Nat} {K : Ou → Wd → Prop} {w : Wd} (h : V g LM jMd_program (d + 1) K 157 [(0, vA 0), (1, vA 1), (2, vI 0)] [] (up (up w 0 20 0) 0 31 0)) : V g LM jMd_program (d + 1) K 144 [(0, vA 0)] [vA 1] w := by
  refine v_astore_n (pc := 144) (ls' := [(1, vA 1), (0, vA 0)]) d_Md_program_144 rfl (by decide) rfl ?_
  refine v_aload_n (pc := 145) d_Md_program_145 rfl (.tail _ (.head _)) ?_
  refine v_iconst (pc := 146) d_Md_program_146 (by decide) ?_
  refine v_puti (pc := 147) d_Md_program_147 fp_Md_444 cM_0.1 cM_0.2 (by decide) rfl ?_
  refine v_aload_n (pc := 150) d_Md_program_150 rfl (.tail _ (.head _)) ?_
  refine v_iconst (pc := 151) d_Md_program_151 (by decide) ?_
  refine v_puti (pc := 152) d_Md_program_152 fp_Md_436 cM_0.1 cM_0.2 (by decide) rfl ?_
  refine v_iconst (pc := 155) d_Md_program_155 (by decide) ?_
  refine v_istore_n (pc := 156) (ls' := [(2, vI 0), (1, vA 1), (0, vA 0)]) d_Md_program_156 rfl (by decide) rfl ?_
  exact v_sub (List.forall_mem_cons.mpr ⟨(.tail _ (.tail _ (.head _))), (List.forall_mem_cons.mpr ⟨(.tail _ (.head _)), (List.forall_mem_cons.mpr ⟨(.head _), (fun _ z => absurd z List.not_mem_nil)⟩)⟩)⟩) h
set_option maxHeartbeats 4000000 in
theorem s_Md_program_157 {g : Mg} {d : Nat} {K : Ou → Wd → Prop} {w : Wd} {x2_ : Int} (h : (5 ≤ x2_ → (V g LM jMd_program (d + 1) K 190 [(0, vA 0), (1, vA 1), (2, vI 0)] [] (up (up w 0 55 (w 1 1)) 0 56 1))) ∧ (¬ 5 ≤ x2_ → ((0 ≤ x2_ ∧ x2_ < 5) ∧ (V g LM jMd_program (d + 1) K 157 [(0, vA 0), (1, vA 1), (2, vI (wr (x2_ + 1)))] [] (up w 16 (x2_.toNat) 0))))) : V g LM jMd_program (d + 1) K 157 [(0, vA 0), (1, vA 1), (2, vI x2_)] [] w := by
  refine v_iload_n (pc := 157) d_Md_program_157 rfl (.tail _ (.tail _ (.head _))) ?_
  refine v_iconst (pc := 158) d_Md_program_158 (by decide) ?_
  refine v_icmpge (pc := 159) (tgt := 175) d_Md_program_159 (by decide) (fun c => ?_) (fun c => ?_)
  · replace h := h.1 c
    refine v_aload_n (pc := 175) d_Md_program_175 rfl (.head _) ?_
    refine v_aload_n (pc := 176) d_Md_program_176 rfl (.tail _ (.head _)) ?_
    refine v_getN (pc := 177) (x := (w 1 1)) fn_place d_Md_program_177 cM_1.1 cM_1.2 rfl ?_
    refine v_puti (pc := 180) d_Md_program_180 fp_Md_249 cM_0.1 cM_0.2 (by decide) rfl ?_
    refine v_aload_n (pc := 183) d_Md_program_183 rfl (.head _) ?_
    refine v_iconst (pc := 184) d_Md_program_184 (by decide) ?_
    refine v_puti (pc := 185) d_Md_program_185 fp_Md_252 cM_0.1 cM_0.2 (by decide) rfl ?_
    refine v_iconst (pc := 188) d_Md_program_188 (by decide) ?_
    refine v_istore_n (pc := 189) (ls' := [(2, vI 0), (0, vA 0), (1, vA 1)]) d_Md_program_189 rfl (by decide) rfl ?_
    exact v_sub (List.forall_mem_cons.mpr ⟨(.tail _ (.head _)), (List.forall_mem_cons.mpr ⟨(.tail _ (.tail _ (.head _))), (List.forall_mem_cons.mpr ⟨(.head _), (fun _ z => absurd z List.not_mem_nil)⟩)⟩)⟩) h
  · replace h := h.2 c
    refine v_aload_n (pc := 162) d_Md_program_162 rfl (.head _) ?_
    refine v_getr (C := "") (pc := 163) (r := 16) d_Md_program_163 fl_Md_185 cM_0.1 cM_0.2 (Or.inr ⟨_, rfl⟩) rM_0_21 ?_
    refine v_iload_n (pc := 166) d_Md_program_166 rfl (.tail _ (.tail _ (.head _))) ?_
    refine v_iconst (pc := 167) d_Md_program_167 (by decide) ?_
    refine v_iast (pc := 168) d_Md_program_168 cM_16.1 cM_16.2 (aM_16 _) h.1 ?_
    replace h := h.2
    refine v_iinc (pc := 169) (ls' := [(2, vI (wr (x2_ + 1))), (0, vA 0), (1, vA 1)]) d_Md_program_169 (.tail _ (.tail _ (.head _))) (by decide) rfl ?_
    refine v_goto (pc := 172) (tgt := 157) d_Md_program_172 (by decide) ?_
    exact v_sub (List.forall_mem_cons.mpr ⟨(.tail _ (.head _)), (List.forall_mem_cons.mpr ⟨(.tail _ (.tail _ (.head _))), (List.forall_mem_cons.mpr ⟨(.head _), (fun _ z => absurd z List.not_mem_nil)⟩)⟩)⟩) h
set_option maxHeartbeats 4000000 in
theorem s_Md_program_190 {g : Mg} {d : Nat} {K : Ou → Wd → Prop} {w : Wd} {x2_ : Int} (h : ((w 1 1) ≤ x2_ → (K (.inl (some (vI (wr ((-10) - (w 1 0)))))) w)) ∧ (¬ (w 1 1) ≤ x2_ → ((0 ≤ x2_ ∧ x2_ < 4020) ∧ ((¬ (w 3 x2_.toNat) = 10 → (V g LM jMd_program (d + 1) K 190 [(0, vA 0), (1, vA 1), (2, vI (wr (x2_ + 1)))] [] (up w 0 56 (wr ((w 0 56) + 0))))) ∧ ((w 3 x2_.toNat) = 10 → (V g LM jMd_program (d + 1) K 190 [(0, vA 0), (1, vA 1), (2, vI (wr (x2_ + 1)))] [] (up w 0 56 (wr ((w 0 56) + 1))))))))) : V g LM jMd_program (d + 1) K 190 [(0, vA 0), (1, vA 1), (2, vI x2_)] [] w := by
  refine v_iload_n (pc := 190) d_Md_program_190 rfl (.tail _ (.tail _ (.head _))) ?_
  refine v_aload_n (pc := 191) d_Md_program_191 rfl (.tail _ (.head _)) ?_
  refine v_getN (pc := 192) (x := (w 1 1)) fn_place d_Md_program_192 cM_1.1 cM_1.2 rfl ?_
  refine v_icmpge (pc := 195) (tgt := 229) d_Md_program_195 (by decide) (fun c => ?_) (fun c => ?_)
  · replace h := h.1 c
    refine v_bipush (pc := 229) d_Md_program_229 (by decide) rfl ?_
    refine v_aload_n (pc := 231) d_Md_program_231 rfl (.tail _ (.head _)) ?_
    refine v_getN (pc := 232) (x := (w 1 0)) fn_what d_Md_program_232 cM_1.1 cM_1.2 rfl ?_
    refine v_isub (pc := 235) d_Md_program_235 ?_
    exact v_iret (pc := 236) d_Md_program_236 rfl h
  · replace h := h.2 c
    refine v_aload_n (pc := 198) d_Md_program_198 rfl (.head _) ?_
    refine v_aload_n (pc := 199) d_Md_program_199 rfl (.head _) ?_
    refine v_geti (pc := 200) (x := (w 0 56)) d_Md_program_200 fl_Md_252 cM_0.1 cM_0.2 (Or.inl rfl) rfl ?_
    refine v_aload_n (pc := 203) d_Md_program_203 rfl (.head _) ?_
    refine v_getr (C := "") (pc := 204) (r := 3) d_Md_program_204 fl_Md_30 cM_0.1 cM_0.2 (Or.inr ⟨_, rfl⟩) rM_0_4 ?_
    refine v_iload_n (pc := 207) d_Md_program_207 rfl (.tail _ (.tail _ (.head _))) ?_
    refine v_bald (pc := 208) (x := (w 3 x2_.toNat)) d_Md_program_208 cM_3.1 cM_3.2 rfl h.1 ?_
    replace h := h.2
    refine v_bipush (pc := 209) d_Md_program_209 (by decide) rfl ?_
    refine v_icmpne (pc := 211) (tgt := 218) d_Md_program_211 (by decide) (fun c => ?_) (fun c => ?_)
    · replace h := h.1 c
      refine v_iconst (pc := 218) d_Md_program_218 (by decide) ?_
      refine v_iadd (pc := 219) d_Md_program_219 ?_
      refine v_puti (pc := 220) d_Md_program_220 fp_Md_252 cM_0.1 cM_0.2 (by decide) rfl ?_
      refine v_iinc (pc := 223) (ls' := [(2, vI (wr (x2_ + 1))), (0, vA 0), (1, vA 1)]) d_Md_program_223 (.tail _ (.tail _ (.head _))) (by decide) rfl ?_
      refine v_goto (pc := 226) (tgt := 190) d_Md_program_226 (by decide) ?_
      exact v_sub (List.forall_mem_cons.mpr ⟨(.tail _ (.head _)), (List.forall_mem_cons.mpr ⟨(.tail _ (.tail _ (.head _))), (List.forall_mem_cons.mpr ⟨(.head _), (fun _ z => absurd z List.not_mem_nil)⟩)⟩)⟩) h
    · replace h := h.2 c
      refine v_iconst (pc := 214) d_Md_program_214 (by decide) ?_
      refine v_goto (pc := 215) (tgt := 219) d_Md_program_215 (by decide) ?_
      refine v_iadd (pc := 219) d_Md_program_219 ?_
      refine v_puti (pc := 220) d_Md_program_220 fp_Md_252 cM_0.1 cM_0.2 (by decide) rfl ?_
      refine v_iinc (pc := 223) (ls' := [(2, vI (wr (x2_ + 1))), (0, vA 0), (1, vA 1)]) d_Md_program_223 (.tail _ (.tail _ (.head _))) (by decide) rfl ?_
      refine v_goto (pc := 226) (tgt := 190) d_Md_program_226 (by decide) ?_
      exact v_sub (List.forall_mem_cons.mpr ⟨(.tail _ (.head _)), (List.forall_mem_cons.mpr ⟨(.tail _ (.tail _ (.head _))), (List.forall_mem_cons.mpr ⟨(.head _), (fun _ z => absurd z List.not_mem_nil)⟩)⟩)⟩) h
theorem d_Md_fault_0 : decode jMd_fault.cc 0 = .ok (.aload_n 0, 1) := by decide +kernel
theorem d_Md_fault_1 : decode jMd_fault.cc 1 = .ok (.iconst 0, 1) := by decide +kernel
theorem d_Md_fault_2 : decode jMd_fault.cc 2 = .ok (.putfield 1, 3) := by decide +kernel
theorem d_Md_fault_5 : decode jMd_fault.cc 5 = .ok (.iload_n 1, 1) := by decide +kernel
theorem d_Md_fault_6 : decode jMd_fault.cc 6 = .ok (.ifCond .ne 10, 3) := by decide +kernel
theorem d_Md_fault_9 : decode jMd_fault.cc 9 = .ok (.aload_n 0, 1) := by decide +kernel
theorem d_Md_fault_10 : decode jMd_fault.cc 10 = .ok (.getfield 249, 3) := by decide +kernel
theorem d_Md_fault_13 : decode jMd_fault.cc 13 = .ok (.goto 16, 3) := by decide +kernel
theorem d_Md_fault_16 : decode jMd_fault.cc 16 = .ok (.iload_n 1, 1) := by decide +kernel
theorem d_Md_fault_17 : decode jMd_fault.cc 17 = .ok (.iconst 1, 1) := by decide +kernel
theorem d_Md_fault_18 : decode jMd_fault.cc 18 = .ok (.if_icmp .ne 10, 3) := by decide +kernel
theorem d_Md_fault_21 : decode jMd_fault.cc 21 = .ok (.aload_n 0, 1) := by decide +kernel
theorem d_Md_fault_22 : decode jMd_fault.cc 22 = .ok (.getfield 252, 3) := by decide +kernel
theorem d_Md_fault_25 : decode jMd_fault.cc 25 = .ok (.goto 4, 3) := by decide +kernel
theorem d_Md_fault_28 : decode jMd_fault.cc 28 = .ok (.iconst (-1), 1) := by decide +kernel
theorem d_Md_fault_29 : decode jMd_fault.cc 29 = .ok (.ireturn, 1) := by decide +kernel
set_option maxHeartbeats 4000000 in
theorem s_Md_fault {g : Mg} {d : Nat} {K : Ou → Wd → Prop} {w : Wd} {p1 : Int} (h : (¬ p1 = 0 → ((¬ p1 = 1 → (K (.inl (some (vI (-1)))) (up w 0 0 0))) ∧ (p1 = 1 → (K (.inl (some (vI (w 0 56)))) (up w 0 0 0))))) ∧ (p1 = 0 → (K (.inl (some (vI (w 0 55)))) (up w 0 0 0)))) : V g LM jMd_fault d K 0 [(0, vA 0), (1, vI p1)] [] w := by
  refine v_aload_n (pc := 0) d_Md_fault_0 rfl (.head _) ?_
  refine v_iconst (pc := 1) d_Md_fault_1 (by decide) ?_
  refine v_puti (pc := 2) d_Md_fault_2 fp_Md_1 cM_0.1 cM_0.2 (by decide) rfl ?_
  refine v_iload_n (pc := 5) d_Md_fault_5 rfl (.tail _ (.head _)) ?_
  refine v_ifne (pc := 6) (tgt := 16) d_Md_fault_6 (by decide) (fun c => ?_) (fun c => ?_)
  · replace h := h.1 c
    refine v_iload_n (pc := 16) d_Md_fault_16 rfl (.tail _ (.head _)) ?_
    refine v_iconst (pc := 17) d_Md_fault_17 (by decide) ?_
    refine v_icmpne (pc := 18) (tgt := 28) d_Md_fault_18 (by decide) (fun c => ?_) (fun c => ?_)
    · replace h := h.1 c
      refine v_iconst (pc := 28) d_Md_fault_28 (by decide) ?_
      exact v_iret (pc := 29) d_Md_fault_29 rfl h
    · replace h := h.2 c
      refine v_aload_n (pc := 21) d_Md_fault_21 rfl (.head _) ?_
      refine v_geti (pc := 22) (x := (w 0 56)) d_Md_fault_22 fl_Md_252 cM_0.1 cM_0.2 (Or.inl rfl) rfl ?_
      refine v_goto (pc := 25) (tgt := 29) d_Md_fault_25 (by decide) ?_
      exact v_iret (pc := 29) d_Md_fault_29 rfl h
  · replace h := h.2 c
    refine v_aload_n (pc := 9) d_Md_fault_9 rfl (.head _) ?_
    refine v_geti (pc := 10) (x := (w 0 55)) d_Md_fault_10 fl_Md_249 cM_0.1 cM_0.2 (Or.inl rfl) rfl ?_
    refine v_goto (pc := 13) (tgt := 29) d_Md_fault_13 (by decide) ?_
    exact v_iret (pc := 29) d_Md_fault_29 rfl h
