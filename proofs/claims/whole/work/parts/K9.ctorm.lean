/-! ===== the model's constructor ===== -/
theorem d_Md_init_0 : decode jMd_init.cc 0 = .ok (.aload_n 0, 1) := by decide +kernel
theorem d_Md_init_1 : decode jMd_init.cc 1 = .ok (.invokespecial 19, 3) := by decide +kernel
theorem d_Md_init_4 : decode jMd_init.cc 4 = .ok (.aload_n 0, 1) := by decide +kernel
theorem d_Md_init_5 : decode jMd_init.cc 5 = .ok (.new 12, 3) := by decide +kernel
theorem d_Md_init_8 : decode jMd_init.cc 8 = .ok (.dup, 1) := by decide +kernel
theorem d_Md_init_9 : decode jMd_init.cc 9 = .ok (.invokespecial 25, 3) := by decide +kernel
theorem d_Md_init_12 : decode jMd_init.cc 12 = .ok (.putfield 7, 3) := by decide +kernel
theorem d_Md_init_15 : decode jMd_init.cc 15 = .ok (.aload_n 0, 1) := by decide +kernel
theorem d_Md_init_16 : decode jMd_init.cc 16 = .ok (.sipush 4020, 3) := by decide +kernel
theorem d_Md_init_19 : decode jMd_init.cc 19 = .ok (.newarray .byte, 2) := by decide +kernel
theorem d_Md_init_21 : decode jMd_init.cc 21 = .ok (.putfield 26, 3) := by decide +kernel
theorem d_Md_init_24 : decode jMd_init.cc 24 = .ok (.aload_n 0, 1) := by decide +kernel
theorem d_Md_init_25 : decode jMd_init.cc 25 = .ok (.sipush 4020, 3) := by decide +kernel
theorem d_Md_init_28 : decode jMd_init.cc 28 = .ok (.newarray .byte, 2) := by decide +kernel
theorem d_Md_init_30 : decode jMd_init.cc 30 = .ok (.putfield 30, 3) := by decide +kernel
theorem d_Md_init_33 : decode jMd_init.cc 33 = .ok (.aload_n 0, 1) := by decide +kernel
theorem d_Md_init_34 : decode jMd_init.cc 34 = .ok (.sipush 4022, 3) := by decide +kernel
theorem d_Md_init_37 : decode jMd_init.cc 37 = .ok (.newarray .int, 2) := by decide +kernel
theorem d_Md_init_39 : decode jMd_init.cc 39 = .ok (.putfield 33, 3) := by decide +kernel
theorem d_Md_init_42 : decode jMd_init.cc 42 = .ok (.aload_n 0, 1) := by decide +kernel
theorem d_Md_init_43 : decode jMd_init.cc 43 = .ok (.sipush 4022, 3) := by decide +kernel
theorem d_Md_init_46 : decode jMd_init.cc 46 = .ok (.newarray .int, 2) := by decide +kernel
theorem d_Md_init_48 : decode jMd_init.cc 48 = .ok (.putfield 37, 3) := by decide +kernel
theorem d_Md_init_51 : decode jMd_init.cc 51 = .ok (.aload_n 0, 1) := by decide +kernel
theorem d_Md_init_52 : decode jMd_init.cc 52 = .ok (.sipush 4022, 3) := by decide +kernel
theorem d_Md_init_55 : decode jMd_init.cc 55 = .ok (.newarray .int, 2) := by decide +kernel
theorem d_Md_init_57 : decode jMd_init.cc 57 = .ok (.putfield 40, 3) := by decide +kernel
theorem d_Md_init_60 : decode jMd_init.cc 60 = .ok (.aload_n 0, 1) := by decide +kernel
theorem d_Md_init_61 : decode jMd_init.cc 61 = .ok (.sipush 4022, 3) := by decide +kernel
theorem d_Md_init_64 : decode jMd_init.cc 64 = .ok (.newarray .int, 2) := by decide +kernel
theorem d_Md_init_66 : decode jMd_init.cc 66 = .ok (.putfield 43, 3) := by decide +kernel
theorem d_Md_init_69 : decode jMd_init.cc 69 = .ok (.aload_n 0, 1) := by decide +kernel
theorem d_Md_init_70 : decode jMd_init.cc 70 = .ok (.bipush 33, 2) := by decide +kernel
theorem d_Md_init_72 : decode jMd_init.cc 72 = .ok (.anewarray 46, 3) := by decide +kernel
theorem d_Md_init_75 : decode jMd_init.cc 75 = .ok (.dup, 1) := by decide +kernel
theorem d_Md_init_76 : decode jMd_init.cc 76 = .ok (.iconst 0, 1) := by decide +kernel
theorem d_Md_init_77 : decode jMd_init.cc 77 = .ok (.ldc 48, 2) := by decide +kernel
theorem d_Md_init_79 : decode jMd_init.cc 79 = .ok (.aastore, 1) := by decide +kernel
theorem d_Md_init_80 : decode jMd_init.cc 80 = .ok (.dup, 1) := by decide +kernel
theorem d_Md_init_81 : decode jMd_init.cc 81 = .ok (.iconst 1, 1) := by decide +kernel
theorem d_Md_init_82 : decode jMd_init.cc 82 = .ok (.ldc 50, 2) := by decide +kernel
theorem d_Md_init_84 : decode jMd_init.cc 84 = .ok (.aastore, 1) := by decide +kernel
theorem d_Md_init_85 : decode jMd_init.cc 85 = .ok (.dup, 1) := by decide +kernel
theorem d_Md_init_86 : decode jMd_init.cc 86 = .ok (.iconst 2, 1) := by decide +kernel
theorem d_Md_init_87 : decode jMd_init.cc 87 = .ok (.ldc 52, 2) := by decide +kernel
theorem d_Md_init_89 : decode jMd_init.cc 89 = .ok (.aastore, 1) := by decide +kernel
theorem d_Md_init_90 : decode jMd_init.cc 90 = .ok (.dup, 1) := by decide +kernel
theorem d_Md_init_91 : decode jMd_init.cc 91 = .ok (.iconst 3, 1) := by decide +kernel
theorem d_Md_init_92 : decode jMd_init.cc 92 = .ok (.ldc 54, 2) := by decide +kernel
theorem d_Md_init_94 : decode jMd_init.cc 94 = .ok (.aastore, 1) := by decide +kernel
theorem d_Md_init_95 : decode jMd_init.cc 95 = .ok (.dup, 1) := by decide +kernel
theorem d_Md_init_96 : decode jMd_init.cc 96 = .ok (.iconst 4, 1) := by decide +kernel
theorem d_Md_init_97 : decode jMd_init.cc 97 = .ok (.ldc 56, 2) := by decide +kernel
theorem d_Md_init_99 : decode jMd_init.cc 99 = .ok (.aastore, 1) := by decide +kernel
theorem d_Md_init_100 : decode jMd_init.cc 100 = .ok (.dup, 1) := by decide +kernel
theorem d_Md_init_101 : decode jMd_init.cc 101 = .ok (.iconst 5, 1) := by decide +kernel
theorem d_Md_init_102 : decode jMd_init.cc 102 = .ok (.ldc 58, 2) := by decide +kernel
theorem d_Md_init_104 : decode jMd_init.cc 104 = .ok (.aastore, 1) := by decide +kernel
theorem d_Md_init_105 : decode jMd_init.cc 105 = .ok (.dup, 1) := by decide +kernel
theorem d_Md_init_106 : decode jMd_init.cc 106 = .ok (.bipush 6, 2) := by decide +kernel
theorem d_Md_init_108 : decode jMd_init.cc 108 = .ok (.ldc 60, 2) := by decide +kernel
theorem d_Md_init_110 : decode jMd_init.cc 110 = .ok (.aastore, 1) := by decide +kernel
theorem d_Md_init_111 : decode jMd_init.cc 111 = .ok (.dup, 1) := by decide +kernel
theorem d_Md_init_112 : decode jMd_init.cc 112 = .ok (.bipush 7, 2) := by decide +kernel
theorem d_Md_init_114 : decode jMd_init.cc 114 = .ok (.ldc 62, 2) := by decide +kernel
theorem d_Md_init_116 : decode jMd_init.cc 116 = .ok (.aastore, 1) := by decide +kernel
theorem d_Md_init_117 : decode jMd_init.cc 117 = .ok (.dup, 1) := by decide +kernel
theorem d_Md_init_118 : decode jMd_init.cc 118 = .ok (.bipush 8, 2) := by decide +kernel
theorem d_Md_init_120 : decode jMd_init.cc 120 = .ok (.ldc 64, 2) := by decide +kernel
theorem d_Md_init_122 : decode jMd_init.cc 122 = .ok (.aastore, 1) := by decide +kernel
theorem d_Md_init_123 : decode jMd_init.cc 123 = .ok (.dup, 1) := by decide +kernel
theorem d_Md_init_124 : decode jMd_init.cc 124 = .ok (.bipush 9, 2) := by decide +kernel
theorem d_Md_init_126 : decode jMd_init.cc 126 = .ok (.ldc 66, 2) := by decide +kernel
theorem d_Md_init_128 : decode jMd_init.cc 128 = .ok (.aastore, 1) := by decide +kernel
theorem d_Md_init_129 : decode jMd_init.cc 129 = .ok (.dup, 1) := by decide +kernel
theorem d_Md_init_130 : decode jMd_init.cc 130 = .ok (.bipush 10, 2) := by decide +kernel
theorem d_Md_init_132 : decode jMd_init.cc 132 = .ok (.ldc 68, 2) := by decide +kernel
theorem d_Md_init_134 : decode jMd_init.cc 134 = .ok (.aastore, 1) := by decide +kernel
theorem d_Md_init_135 : decode jMd_init.cc 135 = .ok (.dup, 1) := by decide +kernel
theorem d_Md_init_136 : decode jMd_init.cc 136 = .ok (.bipush 11, 2) := by decide +kernel
theorem d_Md_init_138 : decode jMd_init.cc 138 = .ok (.ldc 70, 2) := by decide +kernel
theorem d_Md_init_140 : decode jMd_init.cc 140 = .ok (.aastore, 1) := by decide +kernel
theorem d_Md_init_141 : decode jMd_init.cc 141 = .ok (.dup, 1) := by decide +kernel
theorem d_Md_init_142 : decode jMd_init.cc 142 = .ok (.bipush 12, 2) := by decide +kernel
theorem d_Md_init_144 : decode jMd_init.cc 144 = .ok (.ldc 72, 2) := by decide +kernel
theorem d_Md_init_146 : decode jMd_init.cc 146 = .ok (.aastore, 1) := by decide +kernel
theorem d_Md_init_147 : decode jMd_init.cc 147 = .ok (.dup, 1) := by decide +kernel
theorem d_Md_init_148 : decode jMd_init.cc 148 = .ok (.bipush 13, 2) := by decide +kernel
theorem d_Md_init_150 : decode jMd_init.cc 150 = .ok (.ldc 74, 2) := by decide +kernel
theorem d_Md_init_152 : decode jMd_init.cc 152 = .ok (.aastore, 1) := by decide +kernel
theorem d_Md_init_153 : decode jMd_init.cc 153 = .ok (.dup, 1) := by decide +kernel
theorem d_Md_init_154 : decode jMd_init.cc 154 = .ok (.bipush 14, 2) := by decide +kernel
theorem d_Md_init_156 : decode jMd_init.cc 156 = .ok (.ldc 76, 2) := by decide +kernel
theorem d_Md_init_158 : decode jMd_init.cc 158 = .ok (.aastore, 1) := by decide +kernel
theorem d_Md_init_159 : decode jMd_init.cc 159 = .ok (.dup, 1) := by decide +kernel
theorem d_Md_init_160 : decode jMd_init.cc 160 = .ok (.bipush 15, 2) := by decide +kernel
theorem d_Md_init_162 : decode jMd_init.cc 162 = .ok (.ldc 78, 2) := by decide +kernel
theorem d_Md_init_164 : decode jMd_init.cc 164 = .ok (.aastore, 1) := by decide +kernel
theorem d_Md_init_165 : decode jMd_init.cc 165 = .ok (.dup, 1) := by decide +kernel
theorem d_Md_init_166 : decode jMd_init.cc 166 = .ok (.bipush 16, 2) := by decide +kernel
theorem d_Md_init_168 : decode jMd_init.cc 168 = .ok (.ldc 80, 2) := by decide +kernel
theorem d_Md_init_170 : decode jMd_init.cc 170 = .ok (.aastore, 1) := by decide +kernel
theorem d_Md_init_171 : decode jMd_init.cc 171 = .ok (.dup, 1) := by decide +kernel
theorem d_Md_init_172 : decode jMd_init.cc 172 = .ok (.bipush 17, 2) := by decide +kernel
theorem d_Md_init_174 : decode jMd_init.cc 174 = .ok (.ldc 82, 2) := by decide +kernel
theorem d_Md_init_176 : decode jMd_init.cc 176 = .ok (.aastore, 1) := by decide +kernel
theorem d_Md_init_177 : decode jMd_init.cc 177 = .ok (.dup, 1) := by decide +kernel
theorem d_Md_init_178 : decode jMd_init.cc 178 = .ok (.bipush 18, 2) := by decide +kernel
theorem d_Md_init_180 : decode jMd_init.cc 180 = .ok (.ldc 84, 2) := by decide +kernel
theorem d_Md_init_182 : decode jMd_init.cc 182 = .ok (.aastore, 1) := by decide +kernel
theorem d_Md_init_183 : decode jMd_init.cc 183 = .ok (.dup, 1) := by decide +kernel
theorem d_Md_init_184 : decode jMd_init.cc 184 = .ok (.bipush 19, 2) := by decide +kernel
theorem d_Md_init_186 : decode jMd_init.cc 186 = .ok (.ldc 86, 2) := by decide +kernel
theorem d_Md_init_188 : decode jMd_init.cc 188 = .ok (.aastore, 1) := by decide +kernel
theorem d_Md_init_189 : decode jMd_init.cc 189 = .ok (.dup, 1) := by decide +kernel
theorem d_Md_init_190 : decode jMd_init.cc 190 = .ok (.bipush 20, 2) := by decide +kernel
theorem d_Md_init_192 : decode jMd_init.cc 192 = .ok (.ldc 88, 2) := by decide +kernel
theorem d_Md_init_194 : decode jMd_init.cc 194 = .ok (.aastore, 1) := by decide +kernel
theorem d_Md_init_195 : decode jMd_init.cc 195 = .ok (.dup, 1) := by decide +kernel
theorem d_Md_init_196 : decode jMd_init.cc 196 = .ok (.bipush 21, 2) := by decide +kernel
theorem d_Md_init_198 : decode jMd_init.cc 198 = .ok (.ldc 90, 2) := by decide +kernel
theorem d_Md_init_200 : decode jMd_init.cc 200 = .ok (.aastore, 1) := by decide +kernel
theorem d_Md_init_201 : decode jMd_init.cc 201 = .ok (.dup, 1) := by decide +kernel
theorem d_Md_init_202 : decode jMd_init.cc 202 = .ok (.bipush 22, 2) := by decide +kernel
theorem d_Md_init_204 : decode jMd_init.cc 204 = .ok (.ldc 92, 2) := by decide +kernel
theorem d_Md_init_206 : decode jMd_init.cc 206 = .ok (.aastore, 1) := by decide +kernel
theorem d_Md_init_207 : decode jMd_init.cc 207 = .ok (.dup, 1) := by decide +kernel
theorem d_Md_init_208 : decode jMd_init.cc 208 = .ok (.bipush 23, 2) := by decide +kernel
theorem d_Md_init_210 : decode jMd_init.cc 210 = .ok (.ldc 94, 2) := by decide +kernel
theorem d_Md_init_212 : decode jMd_init.cc 212 = .ok (.aastore, 1) := by decide +kernel
theorem d_Md_init_213 : decode jMd_init.cc 213 = .ok (.dup, 1) := by decide +kernel
theorem d_Md_init_214 : decode jMd_init.cc 214 = .ok (.bipush 24, 2) := by decide +kernel
theorem d_Md_init_216 : decode jMd_init.cc 216 = .ok (.ldc 96, 2) := by decide +kernel
theorem d_Md_init_218 : decode jMd_init.cc 218 = .ok (.aastore, 1) := by decide +kernel
theorem d_Md_init_219 : decode jMd_init.cc 219 = .ok (.dup, 1) := by decide +kernel
theorem d_Md_init_220 : decode jMd_init.cc 220 = .ok (.bipush 25, 2) := by decide +kernel
theorem d_Md_init_222 : decode jMd_init.cc 222 = .ok (.ldc 98, 2) := by decide +kernel
theorem d_Md_init_224 : decode jMd_init.cc 224 = .ok (.aastore, 1) := by decide +kernel
theorem d_Md_init_225 : decode jMd_init.cc 225 = .ok (.dup, 1) := by decide +kernel
theorem d_Md_init_226 : decode jMd_init.cc 226 = .ok (.bipush 26, 2) := by decide +kernel
theorem d_Md_init_228 : decode jMd_init.cc 228 = .ok (.ldc 100, 2) := by decide +kernel
theorem d_Md_init_230 : decode jMd_init.cc 230 = .ok (.aastore, 1) := by decide +kernel
theorem d_Md_init_231 : decode jMd_init.cc 231 = .ok (.dup, 1) := by decide +kernel
theorem d_Md_init_232 : decode jMd_init.cc 232 = .ok (.bipush 27, 2) := by decide +kernel
theorem d_Md_init_234 : decode jMd_init.cc 234 = .ok (.ldc 102, 2) := by decide +kernel
theorem d_Md_init_236 : decode jMd_init.cc 236 = .ok (.aastore, 1) := by decide +kernel
theorem d_Md_init_237 : decode jMd_init.cc 237 = .ok (.dup, 1) := by decide +kernel
theorem d_Md_init_238 : decode jMd_init.cc 238 = .ok (.bipush 28, 2) := by decide +kernel
theorem d_Md_init_240 : decode jMd_init.cc 240 = .ok (.ldc 104, 2) := by decide +kernel
theorem d_Md_init_242 : decode jMd_init.cc 242 = .ok (.aastore, 1) := by decide +kernel
theorem d_Md_init_243 : decode jMd_init.cc 243 = .ok (.dup, 1) := by decide +kernel
theorem d_Md_init_244 : decode jMd_init.cc 244 = .ok (.bipush 29, 2) := by decide +kernel
theorem d_Md_init_246 : decode jMd_init.cc 246 = .ok (.ldc 106, 2) := by decide +kernel
theorem d_Md_init_248 : decode jMd_init.cc 248 = .ok (.aastore, 1) := by decide +kernel
theorem d_Md_init_249 : decode jMd_init.cc 249 = .ok (.dup, 1) := by decide +kernel
theorem d_Md_init_250 : decode jMd_init.cc 250 = .ok (.bipush 30, 2) := by decide +kernel
theorem d_Md_init_252 : decode jMd_init.cc 252 = .ok (.ldc 108, 2) := by decide +kernel
theorem d_Md_init_254 : decode jMd_init.cc 254 = .ok (.aastore, 1) := by decide +kernel
theorem d_Md_init_255 : decode jMd_init.cc 255 = .ok (.dup, 1) := by decide +kernel
theorem d_Md_init_256 : decode jMd_init.cc 256 = .ok (.bipush 31, 2) := by decide +kernel
theorem d_Md_init_258 : decode jMd_init.cc 258 = .ok (.ldc 110, 2) := by decide +kernel
theorem d_Md_init_260 : decode jMd_init.cc 260 = .ok (.aastore, 1) := by decide +kernel
theorem d_Md_init_261 : decode jMd_init.cc 261 = .ok (.dup, 1) := by decide +kernel
theorem d_Md_init_262 : decode jMd_init.cc 262 = .ok (.bipush 32, 2) := by decide +kernel
theorem d_Md_init_264 : decode jMd_init.cc 264 = .ok (.ldc 112, 2) := by decide +kernel
theorem d_Md_init_266 : decode jMd_init.cc 266 = .ok (.aastore, 1) := by decide +kernel
theorem d_Md_init_267 : decode jMd_init.cc 267 = .ok (.putfield 114, 3) := by decide +kernel
theorem d_Md_init_270 : decode jMd_init.cc 270 = .ok (.aload_n 0, 1) := by decide +kernel
theorem d_Md_init_271 : decode jMd_init.cc 271 = .ok (.bipush 23, 2) := by decide +kernel
theorem d_Md_init_273 : decode jMd_init.cc 273 = .ok (.anewarray 46, 3) := by decide +kernel
theorem d_Md_init_276 : decode jMd_init.cc 276 = .ok (.dup, 1) := by decide +kernel
theorem d_Md_init_277 : decode jMd_init.cc 277 = .ok (.iconst 0, 1) := by decide +kernel
theorem d_Md_init_278 : decode jMd_init.cc 278 = .ok (.ldc 118, 2) := by decide +kernel
theorem d_Md_init_280 : decode jMd_init.cc 280 = .ok (.aastore, 1) := by decide +kernel
theorem d_Md_init_281 : decode jMd_init.cc 281 = .ok (.dup, 1) := by decide +kernel
theorem d_Md_init_282 : decode jMd_init.cc 282 = .ok (.iconst 1, 1) := by decide +kernel
theorem d_Md_init_283 : decode jMd_init.cc 283 = .ok (.ldc 120, 2) := by decide +kernel
theorem d_Md_init_285 : decode jMd_init.cc 285 = .ok (.aastore, 1) := by decide +kernel
theorem d_Md_init_286 : decode jMd_init.cc 286 = .ok (.dup, 1) := by decide +kernel
theorem d_Md_init_287 : decode jMd_init.cc 287 = .ok (.iconst 2, 1) := by decide +kernel
theorem d_Md_init_288 : decode jMd_init.cc 288 = .ok (.ldc 122, 2) := by decide +kernel
theorem d_Md_init_290 : decode jMd_init.cc 290 = .ok (.aastore, 1) := by decide +kernel
theorem d_Md_init_291 : decode jMd_init.cc 291 = .ok (.dup, 1) := by decide +kernel
theorem d_Md_init_292 : decode jMd_init.cc 292 = .ok (.iconst 3, 1) := by decide +kernel
theorem d_Md_init_293 : decode jMd_init.cc 293 = .ok (.ldc 124, 2) := by decide +kernel
theorem d_Md_init_295 : decode jMd_init.cc 295 = .ok (.aastore, 1) := by decide +kernel
theorem d_Md_init_296 : decode jMd_init.cc 296 = .ok (.dup, 1) := by decide +kernel
theorem d_Md_init_297 : decode jMd_init.cc 297 = .ok (.iconst 4, 1) := by decide +kernel
theorem d_Md_init_298 : decode jMd_init.cc 298 = .ok (.ldc 126, 2) := by decide +kernel
theorem d_Md_init_300 : decode jMd_init.cc 300 = .ok (.aastore, 1) := by decide +kernel
theorem d_Md_init_301 : decode jMd_init.cc 301 = .ok (.dup, 1) := by decide +kernel
theorem d_Md_init_302 : decode jMd_init.cc 302 = .ok (.iconst 5, 1) := by decide +kernel
theorem d_Md_init_303 : decode jMd_init.cc 303 = .ok (.ldc 128, 2) := by decide +kernel
theorem d_Md_init_305 : decode jMd_init.cc 305 = .ok (.aastore, 1) := by decide +kernel
theorem d_Md_init_306 : decode jMd_init.cc 306 = .ok (.dup, 1) := by decide +kernel
theorem d_Md_init_307 : decode jMd_init.cc 307 = .ok (.bipush 6, 2) := by decide +kernel
theorem d_Md_init_309 : decode jMd_init.cc 309 = .ok (.ldc 130, 2) := by decide +kernel
theorem d_Md_init_311 : decode jMd_init.cc 311 = .ok (.aastore, 1) := by decide +kernel
theorem d_Md_init_312 : decode jMd_init.cc 312 = .ok (.dup, 1) := by decide +kernel
theorem d_Md_init_313 : decode jMd_init.cc 313 = .ok (.bipush 7, 2) := by decide +kernel
theorem d_Md_init_315 : decode jMd_init.cc 315 = .ok (.ldc 132, 2) := by decide +kernel
theorem d_Md_init_317 : decode jMd_init.cc 317 = .ok (.aastore, 1) := by decide +kernel
theorem d_Md_init_318 : decode jMd_init.cc 318 = .ok (.dup, 1) := by decide +kernel
theorem d_Md_init_319 : decode jMd_init.cc 319 = .ok (.bipush 8, 2) := by decide +kernel
theorem d_Md_init_321 : decode jMd_init.cc 321 = .ok (.ldc 134, 2) := by decide +kernel
theorem d_Md_init_323 : decode jMd_init.cc 323 = .ok (.aastore, 1) := by decide +kernel
theorem d_Md_init_324 : decode jMd_init.cc 324 = .ok (.dup, 1) := by decide +kernel
theorem d_Md_init_325 : decode jMd_init.cc 325 = .ok (.bipush 9, 2) := by decide +kernel
theorem d_Md_init_327 : decode jMd_init.cc 327 = .ok (.ldc 136, 2) := by decide +kernel
theorem d_Md_init_329 : decode jMd_init.cc 329 = .ok (.aastore, 1) := by decide +kernel
theorem d_Md_init_330 : decode jMd_init.cc 330 = .ok (.dup, 1) := by decide +kernel
theorem d_Md_init_331 : decode jMd_init.cc 331 = .ok (.bipush 10, 2) := by decide +kernel
theorem d_Md_init_333 : decode jMd_init.cc 333 = .ok (.ldc 138, 2) := by decide +kernel
theorem d_Md_init_335 : decode jMd_init.cc 335 = .ok (.aastore, 1) := by decide +kernel
theorem d_Md_init_336 : decode jMd_init.cc 336 = .ok (.dup, 1) := by decide +kernel
theorem d_Md_init_337 : decode jMd_init.cc 337 = .ok (.bipush 11, 2) := by decide +kernel
theorem d_Md_init_339 : decode jMd_init.cc 339 = .ok (.ldc 140, 2) := by decide +kernel
theorem d_Md_init_341 : decode jMd_init.cc 341 = .ok (.aastore, 1) := by decide +kernel
theorem d_Md_init_342 : decode jMd_init.cc 342 = .ok (.dup, 1) := by decide +kernel
theorem d_Md_init_343 : decode jMd_init.cc 343 = .ok (.bipush 12, 2) := by decide +kernel
theorem d_Md_init_345 : decode jMd_init.cc 345 = .ok (.ldc 142, 2) := by decide +kernel
theorem d_Md_init_347 : decode jMd_init.cc 347 = .ok (.aastore, 1) := by decide +kernel
theorem d_Md_init_348 : decode jMd_init.cc 348 = .ok (.dup, 1) := by decide +kernel
theorem d_Md_init_349 : decode jMd_init.cc 349 = .ok (.bipush 13, 2) := by decide +kernel
theorem d_Md_init_351 : decode jMd_init.cc 351 = .ok (.ldc 144, 2) := by decide +kernel
theorem d_Md_init_353 : decode jMd_init.cc 353 = .ok (.aastore, 1) := by decide +kernel
theorem d_Md_init_354 : decode jMd_init.cc 354 = .ok (.dup, 1) := by decide +kernel
theorem d_Md_init_355 : decode jMd_init.cc 355 = .ok (.bipush 14, 2) := by decide +kernel
theorem d_Md_init_357 : decode jMd_init.cc 357 = .ok (.ldc 146, 2) := by decide +kernel
theorem d_Md_init_359 : decode jMd_init.cc 359 = .ok (.aastore, 1) := by decide +kernel
theorem d_Md_init_360 : decode jMd_init.cc 360 = .ok (.dup, 1) := by decide +kernel
theorem d_Md_init_361 : decode jMd_init.cc 361 = .ok (.bipush 15, 2) := by decide +kernel
theorem d_Md_init_363 : decode jMd_init.cc 363 = .ok (.ldc 148, 2) := by decide +kernel
theorem d_Md_init_365 : decode jMd_init.cc 365 = .ok (.aastore, 1) := by decide +kernel
theorem d_Md_init_366 : decode jMd_init.cc 366 = .ok (.dup, 1) := by decide +kernel
theorem d_Md_init_367 : decode jMd_init.cc 367 = .ok (.bipush 16, 2) := by decide +kernel
theorem d_Md_init_369 : decode jMd_init.cc 369 = .ok (.ldc 150, 2) := by decide +kernel
theorem d_Md_init_371 : decode jMd_init.cc 371 = .ok (.aastore, 1) := by decide +kernel
theorem d_Md_init_372 : decode jMd_init.cc 372 = .ok (.dup, 1) := by decide +kernel
theorem d_Md_init_373 : decode jMd_init.cc 373 = .ok (.bipush 17, 2) := by decide +kernel
theorem d_Md_init_375 : decode jMd_init.cc 375 = .ok (.ldc 152, 2) := by decide +kernel
theorem d_Md_init_377 : decode jMd_init.cc 377 = .ok (.aastore, 1) := by decide +kernel
theorem d_Md_init_378 : decode jMd_init.cc 378 = .ok (.dup, 1) := by decide +kernel
theorem d_Md_init_379 : decode jMd_init.cc 379 = .ok (.bipush 18, 2) := by decide +kernel
theorem d_Md_init_381 : decode jMd_init.cc 381 = .ok (.ldc 154, 2) := by decide +kernel
theorem d_Md_init_383 : decode jMd_init.cc 383 = .ok (.aastore, 1) := by decide +kernel
theorem d_Md_init_384 : decode jMd_init.cc 384 = .ok (.dup, 1) := by decide +kernel
theorem d_Md_init_385 : decode jMd_init.cc 385 = .ok (.bipush 19, 2) := by decide +kernel
theorem d_Md_init_387 : decode jMd_init.cc 387 = .ok (.ldc 156, 2) := by decide +kernel
theorem d_Md_init_389 : decode jMd_init.cc 389 = .ok (.aastore, 1) := by decide +kernel
theorem d_Md_init_390 : decode jMd_init.cc 390 = .ok (.dup, 1) := by decide +kernel
theorem d_Md_init_391 : decode jMd_init.cc 391 = .ok (.bipush 20, 2) := by decide +kernel
theorem d_Md_init_393 : decode jMd_init.cc 393 = .ok (.ldc 158, 2) := by decide +kernel
theorem d_Md_init_395 : decode jMd_init.cc 395 = .ok (.aastore, 1) := by decide +kernel
theorem d_Md_init_396 : decode jMd_init.cc 396 = .ok (.dup, 1) := by decide +kernel
theorem d_Md_init_397 : decode jMd_init.cc 397 = .ok (.bipush 21, 2) := by decide +kernel
theorem d_Md_init_399 : decode jMd_init.cc 399 = .ok (.ldc 160, 2) := by decide +kernel
theorem d_Md_init_401 : decode jMd_init.cc 401 = .ok (.aastore, 1) := by decide +kernel
theorem d_Md_init_402 : decode jMd_init.cc 402 = .ok (.dup, 1) := by decide +kernel
theorem d_Md_init_403 : decode jMd_init.cc 403 = .ok (.bipush 22, 2) := by decide +kernel
theorem d_Md_init_405 : decode jMd_init.cc 405 = .ok (.ldc 162, 2) := by decide +kernel
theorem d_Md_init_407 : decode jMd_init.cc 407 = .ok (.aastore, 1) := by decide +kernel
theorem d_Md_init_408 : decode jMd_init.cc 408 = .ok (.putfield 164, 3) := by decide +kernel
theorem d_Md_init_411 : decode jMd_init.cc 411 = .ok (.aload_n 0, 1) := by decide +kernel
theorem d_Md_init_412 : decode jMd_init.cc 412 = .ok (.bipush 30, 2) := by decide +kernel
theorem d_Md_init_414 : decode jMd_init.cc 414 = .ok (.newarray .int, 2) := by decide +kernel
theorem d_Md_init_416 : decode jMd_init.cc 416 = .ok (.putfield 167, 3) := by decide +kernel
theorem d_Md_init_419 : decode jMd_init.cc 419 = .ok (.aload_n 0, 1) := by decide +kernel
theorem d_Md_init_420 : decode jMd_init.cc 420 = .ok (.bipush 30, 2) := by decide +kernel
theorem d_Md_init_422 : decode jMd_init.cc 422 = .ok (.newarray .int, 2) := by decide +kernel
theorem d_Md_init_424 : decode jMd_init.cc 424 = .ok (.putfield 170, 3) := by decide +kernel
theorem d_Md_init_427 : decode jMd_init.cc 427 = .ok (.aload_n 0, 1) := by decide +kernel
theorem d_Md_init_428 : decode jMd_init.cc 428 = .ok (.bipush 30, 2) := by decide +kernel
theorem d_Md_init_430 : decode jMd_init.cc 430 = .ok (.newarray .int, 2) := by decide +kernel
theorem d_Md_init_432 : decode jMd_init.cc 432 = .ok (.putfield 173, 3) := by decide +kernel
theorem d_Md_init_435 : decode jMd_init.cc 435 = .ok (.aload_n 0, 1) := by decide +kernel
theorem d_Md_init_436 : decode jMd_init.cc 436 = .ok (.bipush 30, 2) := by decide +kernel
theorem d_Md_init_438 : decode jMd_init.cc 438 = .ok (.newarray .int, 2) := by decide +kernel
theorem d_Md_init_440 : decode jMd_init.cc 440 = .ok (.putfield 176, 3) := by decide +kernel
theorem d_Md_init_443 : decode jMd_init.cc 443 = .ok (.aload_n 0, 1) := by decide +kernel
theorem d_Md_init_444 : decode jMd_init.cc 444 = .ok (.bipush 30, 2) := by decide +kernel
theorem d_Md_init_446 : decode jMd_init.cc 446 = .ok (.newarray .int, 2) := by decide +kernel
theorem d_Md_init_448 : decode jMd_init.cc 448 = .ok (.putfield 179, 3) := by decide +kernel
theorem d_Md_init_451 : decode jMd_init.cc 451 = .ok (.aload_n 0, 1) := by decide +kernel
theorem d_Md_init_452 : decode jMd_init.cc 452 = .ok (.bipush 30, 2) := by decide +kernel
theorem d_Md_init_454 : decode jMd_init.cc 454 = .ok (.newarray .int, 2) := by decide +kernel
theorem d_Md_init_456 : decode jMd_init.cc 456 = .ok (.putfield 182, 3) := by decide +kernel
theorem d_Md_init_459 : decode jMd_init.cc 459 = .ok (.aload_n 0, 1) := by decide +kernel
theorem d_Md_init_460 : decode jMd_init.cc 460 = .ok (.iconst 5, 1) := by decide +kernel
theorem d_Md_init_461 : decode jMd_init.cc 461 = .ok (.newarray .int, 2) := by decide +kernel
theorem d_Md_init_463 : decode jMd_init.cc 463 = .ok (.putfield 185, 3) := by decide +kernel
theorem d_Md_init_466 : decode jMd_init.cc 466 = .ok (.aload_n 0, 1) := by decide +kernel
theorem d_Md_init_467 : decode jMd_init.cc 467 = .ok (.sipush 130, 3) := by decide +kernel
theorem d_Md_init_470 : decode jMd_init.cc 470 = .ok (.newarray .int, 2) := by decide +kernel
theorem d_Md_init_472 : decode jMd_init.cc 472 = .ok (.putfield 188, 3) := by decide +kernel
theorem d_Md_init_475 : decode jMd_init.cc 475 = .ok (.aload_n 0, 1) := by decide +kernel
theorem d_Md_init_476 : decode jMd_init.cc 476 = .ok (.sipush 130, 3) := by decide +kernel
theorem d_Md_init_479 : decode jMd_init.cc 479 = .ok (.newarray .int, 2) := by decide +kernel
theorem d_Md_init_481 : decode jMd_init.cc 481 = .ok (.putfield 191, 3) := by decide +kernel
theorem d_Md_init_484 : decode jMd_init.cc 484 = .ok (.aload_n 0, 1) := by decide +kernel
theorem d_Md_init_485 : decode jMd_init.cc 485 = .ok (.sipush 130, 3) := by decide +kernel
theorem d_Md_init_488 : decode jMd_init.cc 488 = .ok (.newarray .int, 2) := by decide +kernel
theorem d_Md_init_490 : decode jMd_init.cc 490 = .ok (.putfield 194, 3) := by decide +kernel
theorem d_Md_init_493 : decode jMd_init.cc 493 = .ok (.aload_n 0, 1) := by decide +kernel
theorem d_Md_init_494 : decode jMd_init.cc 494 = .ok (.sipush 130, 3) := by decide +kernel
theorem d_Md_init_497 : decode jMd_init.cc 497 = .ok (.newarray .int, 2) := by decide +kernel
theorem d_Md_init_499 : decode jMd_init.cc 499 = .ok (.putfield 197, 3) := by decide +kernel
theorem d_Md_init_502 : decode jMd_init.cc 502 = .ok (.aload_n 0, 1) := by decide +kernel
theorem d_Md_init_503 : decode jMd_init.cc 503 = .ok (.sipush 130, 3) := by decide +kernel
theorem d_Md_init_506 : decode jMd_init.cc 506 = .ok (.newarray .int, 2) := by decide +kernel
theorem d_Md_init_508 : decode jMd_init.cc 508 = .ok (.putfield 200, 3) := by decide +kernel
theorem d_Md_init_511 : decode jMd_init.cc 511 = .ok (.aload_n 0, 1) := by decide +kernel
theorem d_Md_init_512 : decode jMd_init.cc 512 = .ok (.sipush 130, 3) := by decide +kernel
theorem d_Md_init_515 : decode jMd_init.cc 515 = .ok (.newarray .int, 2) := by decide +kernel
theorem d_Md_init_517 : decode jMd_init.cc 517 = .ok (.putfield 203, 3) := by decide +kernel
theorem d_Md_init_520 : decode jMd_init.cc 520 = .ok (.aload_n 0, 1) := by decide +kernel
theorem d_Md_init_521 : decode jMd_init.cc 521 = .ok (.sipush 130, 3) := by decide +kernel
theorem d_Md_init_524 : decode jMd_init.cc 524 = .ok (.newarray .int, 2) := by decide +kernel
theorem d_Md_init_526 : decode jMd_init.cc 526 = .ok (.putfield 206, 3) := by decide +kernel
theorem d_Md_init_529 : decode jMd_init.cc 529 = .ok (.aload_n 0, 1) := by decide +kernel
theorem d_Md_init_530 : decode jMd_init.cc 530 = .ok (.sipush 130, 3) := by decide +kernel
theorem d_Md_init_533 : decode jMd_init.cc 533 = .ok (.newarray .int, 2) := by decide +kernel
theorem d_Md_init_535 : decode jMd_init.cc 535 = .ok (.putfield 209, 3) := by decide +kernel
theorem d_Md_init_538 : decode jMd_init.cc 538 = .ok (.aload_n 0, 1) := by decide +kernel
theorem d_Md_init_539 : decode jMd_init.cc 539 = .ok (.sipush 130, 3) := by decide +kernel
theorem d_Md_init_542 : decode jMd_init.cc 542 = .ok (.newarray .boolean, 2) := by decide +kernel
theorem d_Md_init_544 : decode jMd_init.cc 544 = .ok (.putfield 212, 3) := by decide +kernel
theorem d_Md_init_547 : decode jMd_init.cc 547 = .ok (.aload_n 0, 1) := by decide +kernel
theorem d_Md_init_548 : decode jMd_init.cc 548 = .ok (.sipush 2000, 3) := by decide +kernel
theorem d_Md_init_551 : decode jMd_init.cc 551 = .ok (.newarray .int, 2) := by decide +kernel
theorem d_Md_init_553 : decode jMd_init.cc 553 = .ok (.putfield 216, 3) := by decide +kernel
theorem d_Md_init_556 : decode jMd_init.cc 556 = .ok (.aload_n 0, 1) := by decide +kernel
theorem d_Md_init_557 : decode jMd_init.cc 557 = .ok (.sipush 2000, 3) := by decide +kernel
theorem d_Md_init_560 : decode jMd_init.cc 560 = .ok (.newarray .int, 2) := by decide +kernel
theorem d_Md_init_562 : decode jMd_init.cc 562 = .ok (.putfield 219, 3) := by decide +kernel
theorem d_Md_init_565 : decode jMd_init.cc 565 = .ok (.aload_n 0, 1) := by decide +kernel
theorem d_Md_init_566 : decode jMd_init.cc 566 = .ok (.sipush 2000, 3) := by decide +kernel
theorem d_Md_init_569 : decode jMd_init.cc 569 = .ok (.newarray .int, 2) := by decide +kernel
theorem d_Md_init_571 : decode jMd_init.cc 571 = .ok (.putfield 222, 3) := by decide +kernel
theorem d_Md_init_574 : decode jMd_init.cc 574 = .ok (.aload_n 0, 1) := by decide +kernel
theorem d_Md_init_575 : decode jMd_init.cc 575 = .ok (.sipush 2000, 3) := by decide +kernel
theorem d_Md_init_578 : decode jMd_init.cc 578 = .ok (.newarray .int, 2) := by decide +kernel
theorem d_Md_init_580 : decode jMd_init.cc 580 = .ok (.putfield 225, 3) := by decide +kernel
theorem d_Md_init_583 : decode jMd_init.cc 583 = .ok (.aload_n 0, 1) := by decide +kernel
theorem d_Md_init_584 : decode jMd_init.cc 584 = .ok (.sipush 2000, 3) := by decide +kernel
theorem d_Md_init_587 : decode jMd_init.cc 587 = .ok (.newarray .int, 2) := by decide +kernel
theorem d_Md_init_589 : decode jMd_init.cc 589 = .ok (.putfield 228, 3) := by decide +kernel
theorem d_Md_init_592 : decode jMd_init.cc 592 = .ok (.aload_n 0, 1) := by decide +kernel
theorem d_Md_init_593 : decode jMd_init.cc 593 = .ok (.sipush 2000, 3) := by decide +kernel
theorem d_Md_init_596 : decode jMd_init.cc 596 = .ok (.newarray .int, 2) := by decide +kernel
theorem d_Md_init_598 : decode jMd_init.cc 598 = .ok (.putfield 231, 3) := by decide +kernel
theorem d_Md_init_601 : decode jMd_init.cc 601 = .ok (.aload_n 0, 1) := by decide +kernel
theorem d_Md_init_602 : decode jMd_init.cc 602 = .ok (.sipush 2000, 3) := by decide +kernel
theorem d_Md_init_605 : decode jMd_init.cc 605 = .ok (.newarray .int, 2) := by decide +kernel
theorem d_Md_init_607 : decode jMd_init.cc 607 = .ok (.putfield 234, 3) := by decide +kernel
theorem d_Md_init_610 : decode jMd_init.cc 610 = .ok (.aload_n 0, 1) := by decide +kernel
theorem d_Md_init_611 : decode jMd_init.cc 611 = .ok (.sipush 2000, 3) := by decide +kernel
theorem d_Md_init_614 : decode jMd_init.cc 614 = .ok (.newarray .int, 2) := by decide +kernel
theorem d_Md_init_616 : decode jMd_init.cc 616 = .ok (.putfield 237, 3) := by decide +kernel
theorem d_Md_init_619 : decode jMd_init.cc 619 = .ok (.aload_n 0, 1) := by decide +kernel
theorem d_Md_init_620 : decode jMd_init.cc 620 = .ok (.sipush 130, 3) := by decide +kernel
theorem d_Md_init_623 : decode jMd_init.cc 623 = .ok (.newarray .int, 2) := by decide +kernel
theorem d_Md_init_625 : decode jMd_init.cc 625 = .ok (.putfield 240, 3) := by decide +kernel
theorem d_Md_init_628 : decode jMd_init.cc 628 = .ok (.aload_n 0, 1) := by decide +kernel
theorem d_Md_init_629 : decode jMd_init.cc 629 = .ok (.sipush 130, 3) := by decide +kernel
theorem d_Md_init_632 : decode jMd_init.cc 632 = .ok (.newarray .int, 2) := by decide +kernel
theorem d_Md_init_634 : decode jMd_init.cc 634 = .ok (.putfield 243, 3) := by decide +kernel
theorem d_Md_init_637 : decode jMd_init.cc 637 = .ok (.aload_n 0, 1) := by decide +kernel
theorem d_Md_init_638 : decode jMd_init.cc 638 = .ok (.bipush 30, 2) := by decide +kernel
theorem d_Md_init_640 : decode jMd_init.cc 640 = .ok (.newarray .boolean, 2) := by decide +kernel
theorem d_Md_init_642 : decode jMd_init.cc 642 = .ok (.putfield 246, 3) := by decide +kernel
theorem d_Md_init_645 : decode jMd_init.cc 645 = .ok (.aload_n 0, 1) := by decide +kernel
theorem d_Md_init_646 : decode jMd_init.cc 646 = .ok (.bipush (-2), 2) := by decide +kernel
theorem d_Md_init_648 : decode jMd_init.cc 648 = .ok (.putfield 249, 3) := by decide +kernel
theorem d_Md_init_651 : decode jMd_init.cc 651 = .ok (.aload_n 0, 1) := by decide +kernel
theorem d_Md_init_652 : decode jMd_init.cc 652 = .ok (.bipush (-2), 2) := by decide +kernel
theorem d_Md_init_654 : decode jMd_init.cc 654 = .ok (.putfield 252, 3) := by decide +kernel
theorem d_Md_init_657 : decode jMd_init.cc 657 = .ok (.aload_n 0, 1) := by decide +kernel
theorem d_Md_init_658 : decode jMd_init.cc 658 = .ok (.sipush 12000, 3) := by decide +kernel
theorem d_Md_init_661 : decode jMd_init.cc 661 = .ok (.newarray .byte, 2) := by decide +kernel
theorem d_Md_init_663 : decode jMd_init.cc 663 = .ok (.putfield 255, 3) := by decide +kernel
theorem d_Md_init_666 : decode jMd_init.cc 666 = .ok (.aload_n 0, 1) := by decide +kernel
theorem d_Md_init_667 : decode jMd_init.cc 667 = .ok (.bipush 120, 2) := by decide +kernel
theorem d_Md_init_669 : decode jMd_init.cc 669 = .ok (.newarray .int, 2) := by decide +kernel
theorem d_Md_init_671 : decode jMd_init.cc 671 = .ok (.putfield 258, 3) := by decide +kernel
theorem d_Md_init_674 : decode jMd_init.cc 674 = .ok (.aload_n 0, 1) := by decide +kernel
theorem d_Md_init_675 : decode jMd_init.cc 675 = .ok (.bipush 120, 2) := by decide +kernel
theorem d_Md_init_677 : decode jMd_init.cc 677 = .ok (.newarray .int, 2) := by decide +kernel
theorem d_Md_init_679 : decode jMd_init.cc 679 = .ok (.putfield 261, 3) := by decide +kernel
theorem d_Md_init_682 : decode jMd_init.cc 682 = .ok (.aload_n 0, 1) := by decide +kernel
theorem d_Md_init_683 : decode jMd_init.cc 683 = .ok (.sipush 480, 3) := by decide +kernel
theorem d_Md_init_686 : decode jMd_init.cc 686 = .ok (.newarray .int, 2) := by decide +kernel
theorem d_Md_init_688 : decode jMd_init.cc 688 = .ok (.putfield 264, 3) := by decide +kernel
theorem d_Md_init_691 : decode jMd_init.cc 691 = .ok (.aload_n 0, 1) := by decide +kernel
theorem d_Md_init_692 : decode jMd_init.cc 692 = .ok (.sipush 320, 3) := by decide +kernel
theorem d_Md_init_695 : decode jMd_init.cc 695 = .ok (.newarray .int, 2) := by decide +kernel
theorem d_Md_init_697 : decode jMd_init.cc 697 = .ok (.putfield 267, 3) := by decide +kernel
theorem d_Md_init_700 : decode jMd_init.cc 700 = .ok (.aload_n 0, 1) := by decide +kernel
theorem d_Md_init_701 : decode jMd_init.cc 701 = .ok (.bipush 40, 2) := by decide +kernel
theorem d_Md_init_703 : decode jMd_init.cc 703 = .ok (.newarray .boolean, 2) := by decide +kernel
theorem d_Md_init_705 : decode jMd_init.cc 705 = .ok (.putfield 270, 3) := by decide +kernel
theorem d_Md_init_708 : decode jMd_init.cc 708 = .ok (.aload_n 0, 1) := by decide +kernel
theorem d_Md_init_709 : decode jMd_init.cc 709 = .ok (.sipush 160, 3) := by decide +kernel
theorem d_Md_init_712 : decode jMd_init.cc 712 = .ok (.newarray .int, 2) := by decide +kernel
theorem d_Md_init_714 : decode jMd_init.cc 714 = .ok (.putfield 273, 3) := by decide +kernel
theorem d_Md_init_717 : decode jMd_init.cc 717 = .ok (.aload_n 0, 1) := by decide +kernel
theorem d_Md_init_718 : decode jMd_init.cc 718 = .ok (.sipush 160, 3) := by decide +kernel
theorem d_Md_init_721 : decode jMd_init.cc 721 = .ok (.newarray .int, 2) := by decide +kernel
theorem d_Md_init_723 : decode jMd_init.cc 723 = .ok (.putfield 276, 3) := by decide +kernel
theorem d_Md_init_726 : decode jMd_init.cc 726 = .ok (.aload_n 0, 1) := by decide +kernel
theorem d_Md_init_727 : decode jMd_init.cc 727 = .ok (.iconst 4, 1) := by decide +kernel
theorem d_Md_init_728 : decode jMd_init.cc 728 = .ok (.newarray .int, 2) := by decide +kernel
theorem d_Md_init_730 : decode jMd_init.cc 730 = .ok (.putfield 279, 3) := by decide +kernel
theorem d_Md_init_733 : decode jMd_init.cc 733 = .ok (.aload_n 0, 1) := by decide +kernel
theorem d_Md_init_734 : decode jMd_init.cc 734 = .ok (.iconst 4, 1) := by decide +kernel
theorem d_Md_init_735 : decode jMd_init.cc 735 = .ok (.newarray .int, 2) := by decide +kernel
theorem d_Md_init_737 : decode jMd_init.cc 737 = .ok (.putfield 282, 3) := by decide +kernel
theorem d_Md_init_740 : decode jMd_init.cc 740 = .ok (.aload_n 0, 1) := by decide +kernel
theorem d_Md_init_741 : decode jMd_init.cc 741 = .ok (.sipush 160, 3) := by decide +kernel
theorem d_Md_init_744 : decode jMd_init.cc 744 = .ok (.newarray .int, 2) := by decide +kernel
theorem d_Md_init_746 : decode jMd_init.cc 746 = .ok (.putfield 285, 3) := by decide +kernel
theorem d_Md_init_749 : decode jMd_init.cc 749 = .ok (.aload_n 0, 1) := by decide +kernel
theorem d_Md_init_750 : decode jMd_init.cc 750 = .ok (.sipush 160, 3) := by decide +kernel
theorem d_Md_init_753 : decode jMd_init.cc 753 = .ok (.newarray .int, 2) := by decide +kernel
theorem d_Md_init_755 : decode jMd_init.cc 755 = .ok (.putfield 288, 3) := by decide +kernel
theorem d_Md_init_758 : decode jMd_init.cc 758 = .ok (.aload_n 0, 1) := by decide +kernel
theorem d_Md_init_759 : decode jMd_init.cc 759 = .ok (.iconst 4, 1) := by decide +kernel
theorem d_Md_init_760 : decode jMd_init.cc 760 = .ok (.newarray .int, 2) := by decide +kernel
theorem d_Md_init_762 : decode jMd_init.cc 762 = .ok (.putfield 291, 3) := by decide +kernel
theorem d_Md_init_765 : decode jMd_init.cc 765 = .ok (.aload_n 0, 1) := by decide +kernel
theorem d_Md_init_766 : decode jMd_init.cc 766 = .ok (.iconst 4, 1) := by decide +kernel
theorem d_Md_init_767 : decode jMd_init.cc 767 = .ok (.newarray .int, 2) := by decide +kernel
theorem d_Md_init_769 : decode jMd_init.cc 769 = .ok (.putfield 294, 3) := by decide +kernel
theorem d_Md_init_772 : decode jMd_init.cc 772 = .ok (.aload_n 0, 1) := by decide +kernel
theorem d_Md_init_773 : decode jMd_init.cc 773 = .ok (.sipush 4200, 3) := by decide +kernel
theorem d_Md_init_776 : decode jMd_init.cc 776 = .ok (.newarray .int, 2) := by decide +kernel
theorem d_Md_init_778 : decode jMd_init.cc 778 = .ok (.putfield 297, 3) := by decide +kernel
theorem d_Md_init_781 : decode jMd_init.cc 781 = .ok (.aload_n 0, 1) := by decide +kernel
theorem d_Md_init_782 : decode jMd_init.cc 782 = .ok (.sipush 700, 3) := by decide +kernel
theorem d_Md_init_785 : decode jMd_init.cc 785 = .ok (.newarray .int, 2) := by decide +kernel
theorem d_Md_init_787 : decode jMd_init.cc 787 = .ok (.putfield 300, 3) := by decide +kernel
theorem d_Md_init_790 : decode jMd_init.cc 790 = .ok (.aload_n 0, 1) := by decide +kernel
theorem d_Md_init_791 : decode jMd_init.cc 791 = .ok (.sipush 130, 3) := by decide +kernel
theorem d_Md_init_794 : decode jMd_init.cc 794 = .ok (.newarray .int, 2) := by decide +kernel
theorem d_Md_init_796 : decode jMd_init.cc 796 = .ok (.putfield 303, 3) := by decide +kernel
theorem d_Md_init_799 : decode jMd_init.cc 799 = .ok (.aload_n 0, 1) := by decide +kernel
theorem d_Md_init_800 : decode jMd_init.cc 800 = .ok (.iconst 0, 1) := by decide +kernel
theorem d_Md_init_801 : decode jMd_init.cc 801 = .ok (.putfield 1, 3) := by decide +kernel
theorem d_Md_init_804 : decode jMd_init.cc 804 = .ok (.aload_n 0, 1) := by decide +kernel
theorem d_Md_init_805 : decode jMd_init.cc 805 = .ok (.iconst 1, 1) := by decide +kernel
theorem d_Md_init_806 : decode jMd_init.cc 806 = .ok (.putfield 305, 3) := by decide +kernel
theorem d_Md_init_809 : decode jMd_init.cc 809 = .ok (.return_, 1) := by decide +kernel
set_option maxRecDepth 20000 in
theorem ff_Md_7 : FF "VertexLanguageModel" 7 13 1 93 := ⟨cR13, cT13, rfl, by decide, by decide, rfl, rfl, mt_6 205 rfl rfl⟩
set_option maxRecDepth 20000 in
theorem ff_Md_26 : FF "VertexLanguageModel" 26 13 2 93 := ⟨cR13, cT13, rfl, by decide, by decide, rfl, rfl, mt_6 206 rfl rfl⟩
set_option maxRecDepth 20000 in
theorem ff_Md_30 : FF "VertexLanguageModel" 30 13 4 93 := ⟨cR13, cT13, rfl, by decide, by decide, rfl, rfl, mt_6 208 rfl rfl⟩
set_option maxRecDepth 20000 in
theorem ff_Md_33 : FF "VertexLanguageModel" 33 13 6 93 := ⟨cR13, cT13, rfl, by decide, by decide, rfl, rfl, mt_6 210 rfl rfl⟩
set_option maxRecDepth 20000 in
theorem ff_Md_37 : FF "VertexLanguageModel" 37 13 7 93 := ⟨cR13, cT13, rfl, by decide, by decide, rfl, rfl, mt_6 211 rfl rfl⟩
set_option maxRecDepth 20000 in
theorem ff_Md_40 : FF "VertexLanguageModel" 40 13 8 93 := ⟨cR13, cT13, rfl, by decide, by decide, rfl, rfl, mt_6 212 rfl rfl⟩
set_option maxRecDepth 20000 in
theorem ff_Md_43 : FF "VertexLanguageModel" 43 13 9 93 := ⟨cR13, cT13, rfl, by decide, by decide, rfl, rfl, mt_6 213 rfl rfl⟩
set_option maxRecDepth 20000 in
theorem ff_Md_114 : FF "VertexLanguageModel" 114 13 12 93 := ⟨cR13, cT13, rfl, by decide, by decide, rfl, rfl, mt_6 216 rfl rfl⟩
set_option maxRecDepth 20000 in
theorem ff_Md_164 : FF "VertexLanguageModel" 164 13 13 93 := ⟨cR13, cT13, rfl, by decide, by decide, rfl, rfl, mt_6 217 rfl rfl⟩
set_option maxRecDepth 20000 in
theorem ff_Md_167 : FF "VertexLanguageModel" 167 13 14 93 := ⟨cR13, cT13, rfl, by decide, by decide, rfl, rfl, mt_6 218 rfl rfl⟩
set_option maxRecDepth 20000 in
theorem ff_Md_170 : FF "VertexLanguageModel" 170 13 15 93 := ⟨cR13, cT13, rfl, by decide, by decide, rfl, rfl, mt_6 219 rfl rfl⟩
set_option maxRecDepth 20000 in
theorem ff_Md_173 : FF "VertexLanguageModel" 173 13 16 93 := ⟨cR13, cT13, rfl, by decide, by decide, rfl, rfl, mt_6 220 rfl rfl⟩
set_option maxRecDepth 20000 in
theorem ff_Md_176 : FF "VertexLanguageModel" 176 13 17 93 := ⟨cR13, cT13, rfl, by decide, by decide, rfl, rfl, mt_6 221 rfl rfl⟩
set_option maxRecDepth 20000 in
theorem ff_Md_179 : FF "VertexLanguageModel" 179 13 18 93 := ⟨cR13, cT13, rfl, by decide, by decide, rfl, rfl, mt_6 222 rfl rfl⟩
set_option maxRecDepth 20000 in
theorem ff_Md_182 : FF "VertexLanguageModel" 182 13 19 93 := ⟨cR13, cT13, rfl, by decide, by decide, rfl, rfl, mt_6 223 rfl rfl⟩
set_option maxRecDepth 20000 in
theorem ff_Md_185 : FF "VertexLanguageModel" 185 13 21 93 := ⟨cR13, cT13, rfl, by decide, by decide, rfl, rfl, mt_6 225 rfl rfl⟩
set_option maxRecDepth 20000 in
theorem ff_Md_188 : FF "VertexLanguageModel" 188 13 22 93 := ⟨cR13, cT13, rfl, by decide, by decide, rfl, rfl, mt_6 226 rfl rfl⟩
set_option maxRecDepth 20000 in
theorem ff_Md_191 : FF "VertexLanguageModel" 191 13 23 93 := ⟨cR13, cT13, rfl, by decide, by decide, rfl, rfl, mt_6 227 rfl rfl⟩
set_option maxRecDepth 20000 in
theorem ff_Md_194 : FF "VertexLanguageModel" 194 13 24 93 := ⟨cR13, cT13, rfl, by decide, by decide, rfl, rfl, mt_6 228 rfl rfl⟩
set_option maxRecDepth 20000 in
theorem ff_Md_197 : FF "VertexLanguageModel" 197 13 25 93 := ⟨cR13, cT13, rfl, by decide, by decide, rfl, rfl, mt_6 229 rfl rfl⟩
set_option maxRecDepth 20000 in
theorem ff_Md_200 : FF "VertexLanguageModel" 200 13 26 93 := ⟨cR13, cT13, rfl, by decide, by decide, rfl, rfl, mt_6 230 rfl rfl⟩
set_option maxRecDepth 20000 in
theorem ff_Md_203 : FF "VertexLanguageModel" 203 13 27 93 := ⟨cR13, cT13, rfl, by decide, by decide, rfl, rfl, mt_6 231 rfl rfl⟩
set_option maxRecDepth 20000 in
theorem ff_Md_206 : FF "VertexLanguageModel" 206 13 28 93 := ⟨cR13, cT13, rfl, by decide, by decide, rfl, rfl, mt_6 232 rfl rfl⟩
set_option maxRecDepth 20000 in
theorem ff_Md_209 : FF "VertexLanguageModel" 209 13 29 93 := ⟨cR13, cT13, rfl, by decide, by decide, rfl, rfl, mt_6 233 rfl rfl⟩
set_option maxRecDepth 20000 in
theorem ff_Md_212 : FF "VertexLanguageModel" 212 13 30 93 := ⟨cR13, cT13, rfl, by decide, by decide, rfl, rfl, mt_6 234 rfl rfl⟩
set_option maxRecDepth 20000 in
theorem ff_Md_216 : FF "VertexLanguageModel" 216 13 32 93 := ⟨cR13, cT13, rfl, by decide, by decide, rfl, rfl, mt_6 236 rfl rfl⟩
set_option maxRecDepth 20000 in
theorem ff_Md_219 : FF "VertexLanguageModel" 219 13 33 93 := ⟨cR13, cT13, rfl, by decide, by decide, rfl, rfl, mt_6 237 rfl rfl⟩
set_option maxRecDepth 20000 in
theorem ff_Md_222 : FF "VertexLanguageModel" 222 13 34 93 := ⟨cR13, cT13, rfl, by decide, by decide, rfl, rfl, mt_6 238 rfl rfl⟩
set_option maxRecDepth 20000 in
theorem ff_Md_225 : FF "VertexLanguageModel" 225 13 35 93 := ⟨cR13, cT13, rfl, by decide, by decide, rfl, rfl, mt_6 239 rfl rfl⟩
set_option maxRecDepth 20000 in
theorem ff_Md_228 : FF "VertexLanguageModel" 228 13 36 93 := ⟨cR13, cT13, rfl, by decide, by decide, rfl, rfl, mt_7 0 rfl rfl⟩
set_option maxRecDepth 20000 in
theorem ff_Md_231 : FF "VertexLanguageModel" 231 13 37 93 := ⟨cR13, cT13, rfl, by decide, by decide, rfl, rfl, mt_7 1 rfl rfl⟩
set_option maxRecDepth 20000 in
theorem ff_Md_234 : FF "VertexLanguageModel" 234 13 38 93 := ⟨cR13, cT13, rfl, by decide, by decide, rfl, rfl, mt_7 2 rfl rfl⟩
set_option maxRecDepth 20000 in
theorem ff_Md_237 : FF "VertexLanguageModel" 237 13 39 93 := ⟨cR13, cT13, rfl, by decide, by decide, rfl, rfl, mt_7 3 rfl rfl⟩
set_option maxRecDepth 20000 in
theorem ff_Md_240 : FF "VertexLanguageModel" 240 13 48 93 := ⟨cR13, cT13, rfl, by decide, by decide, rfl, rfl, mt_7 12 rfl rfl⟩
set_option maxRecDepth 20000 in
theorem ff_Md_243 : FF "VertexLanguageModel" 243 13 49 93 := ⟨cR13, cT13, rfl, by decide, by decide, rfl, rfl, mt_7 13 rfl rfl⟩
set_option maxRecDepth 20000 in
theorem ff_Md_246 : FF "VertexLanguageModel" 246 13 54 93 := ⟨cR13, cT13, rfl, by decide, by decide, rfl, rfl, mt_7 18 rfl rfl⟩
set_option maxRecDepth 20000 in
theorem ff_Md_255 : FF "VertexLanguageModel" 255 13 57 93 := ⟨cR13, cT13, rfl, by decide, by decide, rfl, rfl, mt_7 21 rfl rfl⟩
set_option maxRecDepth 20000 in
theorem ff_Md_258 : FF "VertexLanguageModel" 258 13 61 93 := ⟨cR13, cT13, rfl, by decide, by decide, rfl, rfl, mt_7 25 rfl rfl⟩
set_option maxRecDepth 20000 in
theorem ff_Md_261 : FF "VertexLanguageModel" 261 13 62 93 := ⟨cR13, cT13, rfl, by decide, by decide, rfl, rfl, mt_7 26 rfl rfl⟩
set_option maxRecDepth 20000 in
theorem ff_Md_264 : FF "VertexLanguageModel" 264 13 63 93 := ⟨cR13, cT13, rfl, by decide, by decide, rfl, rfl, mt_7 27 rfl rfl⟩
set_option maxRecDepth 20000 in
theorem ff_Md_267 : FF "VertexLanguageModel" 267 13 67 93 := ⟨cR13, cT13, rfl, by decide, by decide, rfl, rfl, mt_7 31 rfl rfl⟩
set_option maxRecDepth 20000 in
theorem ff_Md_270 : FF "VertexLanguageModel" 270 13 68 93 := ⟨cR13, cT13, rfl, by decide, by decide, rfl, rfl, mt_7 32 rfl rfl⟩
set_option maxRecDepth 20000 in
theorem ff_Md_273 : FF "VertexLanguageModel" 273 13 69 93 := ⟨cR13, cT13, rfl, by decide, by decide, rfl, rfl, mt_7 33 rfl rfl⟩
set_option maxRecDepth 20000 in
theorem ff_Md_276 : FF "VertexLanguageModel" 276 13 70 93 := ⟨cR13, cT13, rfl, by decide, by decide, rfl, rfl, mt_7 34 rfl rfl⟩
set_option maxRecDepth 20000 in
theorem ff_Md_279 : FF "VertexLanguageModel" 279 13 71 93 := ⟨cR13, cT13, rfl, by decide, by decide, rfl, rfl, mt_7 35 rfl rfl⟩
set_option maxRecDepth 20000 in
theorem ff_Md_282 : FF "VertexLanguageModel" 282 13 72 93 := ⟨cR13, cT13, rfl, by decide, by decide, rfl, rfl, mt_7 36 rfl rfl⟩
set_option maxRecDepth 20000 in
theorem ff_Md_285 : FF "VertexLanguageModel" 285 13 73 93 := ⟨cR13, cT13, rfl, by decide, by decide, rfl, rfl, mt_7 37 rfl rfl⟩
set_option maxRecDepth 20000 in
theorem ff_Md_288 : FF "VertexLanguageModel" 288 13 74 93 := ⟨cR13, cT13, rfl, by decide, by decide, rfl, rfl, mt_7 38 rfl rfl⟩
set_option maxRecDepth 20000 in
theorem ff_Md_291 : FF "VertexLanguageModel" 291 13 75 93 := ⟨cR13, cT13, rfl, by decide, by decide, rfl, rfl, mt_7 39 rfl rfl⟩
set_option maxRecDepth 20000 in
theorem ff_Md_294 : FF "VertexLanguageModel" 294 13 76 93 := ⟨cR13, cT13, rfl, by decide, by decide, rfl, rfl, mt_7 40 rfl rfl⟩
set_option maxRecDepth 20000 in
theorem ff_Md_297 : FF "VertexLanguageModel" 297 13 77 93 := ⟨cR13, cT13, rfl, by decide, by decide, rfl, rfl, mt_7 41 rfl rfl⟩
set_option maxRecDepth 20000 in
theorem ff_Md_300 : FF "VertexLanguageModel" 300 13 79 93 := ⟨cR13, cT13, rfl, by decide, by decide, rfl, rfl, mt_7 43 rfl rfl⟩
set_option maxRecDepth 20000 in
theorem ff_Md_303 : FF "VertexLanguageModel" 303 13 92 93 := ⟨cR13, cT13, rfl, by decide, by decide, rfl, rfl, mt_7 56 rfl rfl⟩
set_option maxRecDepth 20000 in
set_option maxHeartbeats 4000000 in
theorem n_Md_s0 {g : Mg} {lo : Nat} {K : Wd → Prop} {w : Wd}  (hK : NV g LM.ly szM lo 54 jMd_init 12 1 54 K 270 [(0, vA 0)] [] 9 (up (up (up (up (up (up (up (up (up (up (up (up (up (up (up (up (up (up (up (up (up (up (up (up (up (up (up (up (up (up (up (up (up (up (up (up (up (up (up (up (up w 0 1 ((1 : Nat) : Int)) 0 2 ((2 : Nat) : Int)) 0 4 ((3 : Nat) : Int)) 0 6 ((4 : Nat) : Int)) 0 7 ((5 : Nat) : Int)) 0 8 ((6 : Nat) : Int)) 0 9 ((7 : Nat) : Int)) 8 0 ((1004 : Nat) : Int)) 8 1 ((1005 : Nat) : Int)) 8 2 ((1006 : Nat) : Int)) 8 3 ((1007 : Nat) : Int)) 8 4 ((1008 : Nat) : Int)) 8 5 ((1009 : Nat) : Int)) 8 6 ((1010 : Nat) : Int)) 8 7 ((1011 : Nat) : Int)) 8 8 ((1012 : Nat) : Int)) 8 9 ((1013 : Nat) : Int)) 8 10 ((1014 : Nat) : Int)) 8 11 ((1015 : Nat) : Int)) 8 12 ((1016 : Nat) : Int)) 8 13 ((1017 : Nat) : Int)) 8 14 ((1018 : Nat) : Int)) 8 15 ((1019 : Nat) : Int)) 8 16 ((1020 : Nat) : Int)) 8 17 ((1021 : Nat) : Int)) 8 18 ((1022 : Nat) : Int)) 8 19 ((1023 : Nat) : Int)) 8 20 ((1024 : Nat) : Int)) 8 21 ((1025 : Nat) : Int)) 8 22 ((1026 : Nat) : Int)) 8 23 ((1027 : Nat) : Int)) 8 24 ((1028 : Nat) : Int)) 8 25 ((1029 : Nat) : Int)) 8 26 ((1030 : Nat) : Int)) 8 27 ((1031 : Nat) : Int)) 8 28 ((1032 : Nat) : Int)) 8 29 ((1033 : Nat) : Int)) 8 30 ((1034 : Nat) : Int)) 8 31 ((1035 : Nat) : Int)) 8 32 ((1036 : Nat) : Int)) 0 12 ((8 : Nat) : Int))) : NV g LM.ly szM lo 54 jMd_init 12 1 54 K 0 [(0, vA 0)] [] 1 w := by
  refine n_aload_n (pc := 0) (i := 0) (x := 0) d_Md_init_0 rfl (.head _) ?_
  refine n_obj (pc := 1) (o := 0) d_Md_init_1 (mt_6 75 rfl rfl) (mt_1 32 rfl rfl) (mt_1 33 rfl rfl) (by decide) (by decide) ?_
  refine n_aload_n (pc := 4) (i := 0) (x := 0) d_Md_init_4 rfl (.head _) ?_
  refine n_stop (pc := 5) (k := 1) d_Md_init_5 d_Md_init_8 d_Md_init_9 (mt_6 76 rfl rfl) (mt_6 77 rfl rfl) (mt_1 18 rfl rfl) (mt_6 115 rfl rfl) rfl (by decide) (by decide) rfl (by decide) (by decide) (by decide) ?_
  refine n_putr (pc := 12) (o := 0) (ci := 13) (f := 1) (N := 93) (r := 1) d_Md_init_12 (Or.inr ⟨ff_Md_7, rfl⟩) (by decide) rfl (by decide) (Or.inl ⟨_, rfl⟩) (by decide) ?_
  refine n_aload_n (pc := 15) (i := 0) (x := 0) d_Md_init_15 rfl (.head _) ?_
  refine n_sipush (pc := 16) (x := (4020 : Nat)) d_Md_init_16 (by decide) (by decide) ?_
  refine n_newB (pc := 19) (k := 2) (N := 4020) d_Md_init_19 rfl (by decide) (by decide) (by decide) rfl (by decide) (mt_1 75 rfl rfl) ?_
  refine n_putr (pc := 21) (o := 0) (ci := 13) (f := 2) (N := 93) (r := 2) d_Md_init_21 (Or.inr ⟨ff_Md_26, rfl⟩) (by decide) rfl (by decide) (Or.inr ⟨_, rfl⟩) (by decide) ?_
  refine n_aload_n (pc := 24) (i := 0) (x := 0) d_Md_init_24 rfl (.head _) ?_
  refine n_sipush (pc := 25) (x := (4020 : Nat)) d_Md_init_25 (by decide) (by decide) ?_
  refine n_newB (pc := 28) (k := 3) (N := 4020) d_Md_init_28 rfl (by decide) (by decide) (by decide) rfl (by decide) (mt_1 75 rfl rfl) ?_
  refine n_putr (pc := 30) (o := 0) (ci := 13) (f := 4) (N := 93) (r := 3) d_Md_init_30 (Or.inr ⟨ff_Md_30, rfl⟩) (by decide) rfl (by decide) (Or.inr ⟨_, rfl⟩) (by decide) ?_
  refine n_aload_n (pc := 33) (i := 0) (x := 0) d_Md_init_33 rfl (.head _) ?_
  refine n_sipush (pc := 34) (x := (4022 : Nat)) d_Md_init_34 (by decide) (by decide) ?_
  refine n_newI (pc := 37) (k := 4) (N := 4022) d_Md_init_37 rfl (by decide) (by decide) (by decide) rfl (by decide) (mt_1 76 rfl rfl) ?_
  refine n_putr (pc := 39) (o := 0) (ci := 13) (f := 6) (N := 93) (r := 4) d_Md_init_39 (Or.inr ⟨ff_Md_33, rfl⟩) (by decide) rfl (by decide) (Or.inr ⟨_, rfl⟩) (by decide) ?_
  refine n_aload_n (pc := 42) (i := 0) (x := 0) d_Md_init_42 rfl (.head _) ?_
  refine n_sipush (pc := 43) (x := (4022 : Nat)) d_Md_init_43 (by decide) (by decide) ?_
  refine n_newI (pc := 46) (k := 5) (N := 4022) d_Md_init_46 rfl (by decide) (by decide) (by decide) rfl (by decide) (mt_1 76 rfl rfl) ?_
  refine n_putr (pc := 48) (o := 0) (ci := 13) (f := 7) (N := 93) (r := 5) d_Md_init_48 (Or.inr ⟨ff_Md_37, rfl⟩) (by decide) rfl (by decide) (Or.inr ⟨_, rfl⟩) (by decide) ?_
  refine n_aload_n (pc := 51) (i := 0) (x := 0) d_Md_init_51 rfl (.head _) ?_
  refine n_sipush (pc := 52) (x := (4022 : Nat)) d_Md_init_52 (by decide) (by decide) ?_
  refine n_newI (pc := 55) (k := 6) (N := 4022) d_Md_init_55 rfl (by decide) (by decide) (by decide) rfl (by decide) (mt_1 76 rfl rfl) ?_
  refine n_putr (pc := 57) (o := 0) (ci := 13) (f := 8) (N := 93) (r := 6) d_Md_init_57 (Or.inr ⟨ff_Md_40, rfl⟩) (by decide) rfl (by decide) (Or.inr ⟨_, rfl⟩) (by decide) ?_
  refine n_aload_n (pc := 60) (i := 0) (x := 0) d_Md_init_60 rfl (.head _) ?_
  refine n_sipush (pc := 61) (x := (4022 : Nat)) d_Md_init_61 (by decide) (by decide) ?_
  refine n_newI (pc := 64) (k := 7) (N := 4022) d_Md_init_64 rfl (by decide) (by decide) (by decide) rfl (by decide) (mt_1 76 rfl rfl) ?_
  refine n_putr (pc := 66) (o := 0) (ci := 13) (f := 9) (N := 93) (r := 7) d_Md_init_66 (Or.inr ⟨ff_Md_43, rfl⟩) (by decide) rfl (by decide) (Or.inr ⟨_, rfl⟩) (by decide) ?_
  refine n_aload_n (pc := 69) (i := 0) (x := 0) d_Md_init_69 rfl (.head _) ?_
  refine n_bipush (pc := 70) (x := (33 : Nat)) d_Md_init_70 (by decide) (by decide) ?_
  refine n_newQ (pc := 72) (k := 8) (kd := 104) (N := 33) (t0 := 4) (C := "java/lang/String") d_Md_init_72 (mt_6 146 rfl rfl) (Or.inr rfl) rfl rfl (by decide) (by decide) (by decide) (by decide) rfl (by decide) ?_
  refine n_dup (pc := 75) d_Md_init_75 rfl ?_
  refine n_iconst (pc := 76) d_Md_init_76 (by decide) ?_
  refine n_ldcs (pc := 77) (x := 3) (tx := "start") d_Md_init_77 (by decide +kernel) ?_
  refine n_astS (pc := 79) (o := 8) (N := 33) (r := 3) (i := 0) d_Md_init_79 (by decide) rfl (by decide) (by decide) ?_
  refine n_dup (pc := 80) d_Md_init_80 rfl ?_
  refine n_iconst (pc := 81) d_Md_init_81 (by decide) ?_
  refine n_ldcs (pc := 82) (x := 4) (tx := "round") d_Md_init_82 (by decide +kernel) ?_
  refine n_astS (pc := 84) (o := 8) (N := 33) (r := 4) (i := 1) d_Md_init_84 (by decide) rfl (by decide) (by decide) ?_
  refine n_dup (pc := 85) d_Md_init_85 rfl ?_
  refine n_iconst (pc := 86) d_Md_init_86 (by decide) ?_
  refine n_ldcs (pc := 87) (x := 5) (tx := "column") d_Md_init_87 (by decide +kernel) ?_
  refine n_astS (pc := 89) (o := 8) (N := 33) (r := 5) (i := 2) d_Md_init_89 (by decide) rfl (by decide) (by decide) ?_
  refine n_dup (pc := 90) d_Md_init_90 rfl ?_
  refine n_iconst (pc := 91) d_Md_init_91 (by decide) ?_
  refine n_ldcs (pc := 92) (x := 6) (tx := "node") d_Md_init_92 (by decide +kernel) ?_
  refine n_astS (pc := 94) (o := 8) (N := 33) (r := 6) (i := 3) d_Md_init_94 (by decide) rfl (by decide) (by decide) ?_
  refine n_dup (pc := 95) d_Md_init_95 rfl ?_
  refine n_iconst (pc := 96) d_Md_init_96 (by decide) ?_
  refine n_ldcs (pc := 97) (x := 7) (tx := "fold") d_Md_init_97 (by decide +kernel) ?_
  refine n_astS (pc := 99) (o := 8) (N := 33) (r := 7) (i := 4) d_Md_init_99 (by decide) rfl (by decide) (by decide) ?_
  refine n_dup (pc := 100) d_Md_init_100 rfl ?_
  refine n_iconst (pc := 101) d_Md_init_101 (by decide) ?_
  refine n_ldcs (pc := 102) (x := 8) (tx := "global") d_Md_init_102 (by decide +kernel) ?_
  refine n_astS (pc := 104) (o := 8) (N := 33) (r := 8) (i := 5) d_Md_init_104 (by decide) rfl (by decide) (by decide) ?_
  refine n_dup (pc := 105) d_Md_init_105 rfl ?_
  refine n_bipush (pc := 106) d_Md_init_106 (by decide) (by decide) ?_
  refine n_ldcs (pc := 108) (x := 9) (tx := "int") d_Md_init_108 (by decide +kernel) ?_
  refine n_astS (pc := 110) (o := 8) (N := 33) (r := 9) (i := 6) d_Md_init_110 (by decide) rfl (by decide) (by decide) ?_
  refine n_dup (pc := 111) d_Md_init_111 rfl ?_
  refine n_bipush (pc := 112) d_Md_init_112 (by decide) (by decide) ?_
  refine n_ldcs (pc := 114) (x := 10) (tx := "bool") d_Md_init_114 (by decide +kernel) ?_
  refine n_astS (pc := 116) (o := 8) (N := 33) (r := 10) (i := 7) d_Md_init_116 (by decide) rfl (by decide) (by decide) ?_
  refine n_dup (pc := 117) d_Md_init_117 rfl ?_
  refine n_bipush (pc := 118) d_Md_init_118 (by decide) (by decide) ?_
  refine n_ldcs (pc := 120) (x := 11) (tx := "true") d_Md_init_120 (by decide +kernel) ?_
  refine n_astS (pc := 122) (o := 8) (N := 33) (r := 11) (i := 8) d_Md_init_122 (by decide) rfl (by decide) (by decide) ?_
  refine n_dup (pc := 123) d_Md_init_123 rfl ?_
  refine n_bipush (pc := 124) d_Md_init_124 (by decide) (by decide) ?_
  refine n_ldcs (pc := 126) (x := 12) (tx := "false") d_Md_init_126 (by decide +kernel) ?_
  refine n_astS (pc := 128) (o := 8) (N := 33) (r := 12) (i := 9) d_Md_init_128 (by decide) rfl (by decide) (by decide) ?_
  refine n_dup (pc := 129) d_Md_init_129 rfl ?_
  refine n_bipush (pc := 130) d_Md_init_130 (by decide) (by decide) ?_
  refine n_ldcs (pc := 132) (x := 13) (tx := "sum") d_Md_init_132 (by decide +kernel) ?_
  refine n_astS (pc := 134) (o := 8) (N := 33) (r := 13) (i := 10) d_Md_init_134 (by decide) rfl (by decide) (by decide) ?_
  refine n_dup (pc := 135) d_Md_init_135 rfl ?_
  refine n_bipush (pc := 136) d_Md_init_136 (by decide) (by decide) ?_
  refine n_ldcs (pc := 138) (x := 14) (tx := "least") d_Md_init_138 (by decide +kernel) ?_
  refine n_astS (pc := 140) (o := 8) (N := 33) (r := 14) (i := 11) d_Md_init_140 (by decide) rfl (by decide) (by decide) ?_
  refine n_dup (pc := 141) d_Md_init_141 rfl ?_
  refine n_bipush (pc := 142) d_Md_init_142 (by decide) (by decide) ?_
  refine n_ldcs (pc := 144) (x := 15) (tx := "most") d_Md_init_144 (by decide +kernel) ?_
  refine n_astS (pc := 146) (o := 8) (N := 33) (r := 15) (i := 12) d_Md_init_146 (by decide) rfl (by decide) (by decide) ?_
  refine n_dup (pc := 147) d_Md_init_147 rfl ?_
  refine n_bipush (pc := 148) d_Md_init_148 (by decide) (by decide) ?_
  refine n_ldcs (pc := 150) (x := 16) (tx := "first") d_Md_init_150 (by decide +kernel) ?_
  refine n_astS (pc := 152) (o := 8) (N := 33) (r := 16) (i := 13) d_Md_init_152 (by decide) rfl (by decide) (by decide) ?_
  refine n_dup (pc := 153) d_Md_init_153 rfl ?_
  refine n_bipush (pc := 154) d_Md_init_154 (by decide) (by decide) ?_
  refine n_ldcs (pc := 156) (x := 17) (tx := "all") d_Md_init_156 (by decide +kernel) ?_
  refine n_astS (pc := 158) (o := 8) (N := 33) (r := 17) (i := 14) d_Md_init_158 (by decide) rfl (by decide) (by decide) ?_
  refine n_dup (pc := 159) d_Md_init_159 rfl ?_
  refine n_bipush (pc := 160) d_Md_init_160 (by decide) (by decide) ?_
  refine n_ldcs (pc := 162) (x := 18) (tx := "some") d_Md_init_162 (by decide +kernel) ?_
  refine n_astS (pc := 164) (o := 8) (N := 33) (r := 18) (i := 15) d_Md_init_164 (by decide) rfl (by decide) (by decide) ?_
  refine n_dup (pc := 165) d_Md_init_165 rfl ?_
  refine n_bipush (pc := 166) d_Md_init_166 (by decide) (by decide) ?_
  refine n_ldcs (pc := 168) (x := 19) (tx := "let") d_Md_init_168 (by decide +kernel) ?_
  refine n_astS (pc := 170) (o := 8) (N := 33) (r := 19) (i := 16) d_Md_init_170 (by decide) rfl (by decide) (by decide) ?_
  refine n_dup (pc := 171) d_Md_init_171 rfl ?_
  refine n_bipush (pc := 172) d_Md_init_172 (by decide) (by decide) ?_
  refine n_ldcs (pc := 174) (x := 20) (tx := "send") d_Md_init_174 (by decide +kernel) ?_
  refine n_astS (pc := 176) (o := 8) (N := 33) (r := 20) (i := 17) d_Md_init_176 (by decide) rfl (by decide) (by decide) ?_
  refine n_dup (pc := 177) d_Md_init_177 rfl ?_
  refine n_bipush (pc := 178) d_Md_init_178 (by decide) (by decide) ?_
  refine n_ldcs (pc := 180) (x := 21) (tx := "along") d_Md_init_180 (by decide +kernel) ?_
  refine n_astS (pc := 182) (o := 8) (N := 33) (r := 21) (i := 18) d_Md_init_182 (by decide) rfl (by decide) (by decide) ?_
  refine n_dup (pc := 183) d_Md_init_183 rfl ?_
  refine n_bipush (pc := 184) d_Md_init_184 (by decide) (by decide) ?_
  refine n_ldcs (pc := 186) (x := 22) (tx := "against") d_Md_init_186 (by decide +kernel) ?_
  refine n_astS (pc := 188) (o := 8) (N := 33) (r := 22) (i := 19) d_Md_init_188 (by decide) rfl (by decide) (by decide) ?_
  refine n_dup (pc := 189) d_Md_init_189 rfl ?_
  refine n_bipush (pc := 190) d_Md_init_190 (by decide) (by decide) ?_
  refine n_ldcs (pc := 192) (x := 23) (tx := "give") d_Md_init_192 (by decide +kernel) ?_
  refine n_astS (pc := 194) (o := 8) (N := 33) (r := 23) (i := 20) d_Md_init_194 (by decide) rfl (by decide) (by decide) ?_
  refine n_dup (pc := 195) d_Md_init_195 rfl ?_
  refine n_bipush (pc := 196) d_Md_init_196 (by decide) (by decide) ?_
  refine n_ldcs (pc := 198) (x := 24) (tx := "if") d_Md_init_198 (by decide +kernel) ?_
  refine n_astS (pc := 200) (o := 8) (N := 33) (r := 24) (i := 21) d_Md_init_200 (by decide) rfl (by decide) (by decide) ?_
  refine n_dup (pc := 201) d_Md_init_201 rfl ?_
  refine n_bipush (pc := 202) d_Md_init_202 (by decide) (by decide) ?_
  refine n_ldcs (pc := 204) (x := 25) (tx := "else") d_Md_init_204 (by decide +kernel) ?_
  refine n_astS (pc := 206) (o := 8) (N := 33) (r := 25) (i := 22) d_Md_init_206 (by decide) rfl (by decide) (by decide) ?_
  refine n_dup (pc := 207) d_Md_init_207 rfl ?_
  refine n_bipush (pc := 208) d_Md_init_208 (by decide) (by decide) ?_
  refine n_ldcs (pc := 210) (x := 26) (tx := "loop") d_Md_init_210 (by decide +kernel) ?_
  refine n_astS (pc := 212) (o := 8) (N := 33) (r := 26) (i := 23) d_Md_init_212 (by decide) rfl (by decide) (by decide) ?_
  refine n_dup (pc := 213) d_Md_init_213 rfl ?_
  refine n_bipush (pc := 214) d_Md_init_214 (by decide) (by decide) ?_
  refine n_ldcs (pc := 216) (x := 27) (tx := "halt") d_Md_init_216 (by decide +kernel) ?_
  refine n_astS (pc := 218) (o := 8) (N := 33) (r := 27) (i := 24) d_Md_init_218 (by decide) rfl (by decide) (by decide) ?_
  refine n_dup (pc := 219) d_Md_init_219 rfl ?_
  refine n_bipush (pc := 220) d_Md_init_220 (by decide) (by decide) ?_
  refine n_ldcs (pc := 222) (x := 28) (tx := "arc") d_Md_init_222 (by decide +kernel) ?_
  refine n_astS (pc := 224) (o := 8) (N := 33) (r := 28) (i := 25) d_Md_init_224 (by decide) rfl (by decide) (by decide) ?_
  refine n_dup (pc := 225) d_Md_init_225 rfl ?_
  refine n_bipush (pc := 226) d_Md_init_226 (by decide) (by decide) ?_
  refine n_ldcs (pc := 228) (x := 29) (tx := "has") d_Md_init_228 (by decide +kernel) ?_
  refine n_astS (pc := 230) (o := 8) (N := 33) (r := 29) (i := 26) d_Md_init_230 (by decide) rfl (by decide) (by decide) ?_
  refine n_dup (pc := 231) d_Md_init_231 rfl ?_
  refine n_bipush (pc := 232) d_Md_init_232 (by decide) (by decide) ?_
  refine n_ldcs (pc := 234) (x := 30) (tx := "id") d_Md_init_234 (by decide +kernel) ?_
  refine n_astS (pc := 236) (o := 8) (N := 33) (r := 30) (i := 27) d_Md_init_236 (by decide) rfl (by decide) (by decide) ?_
  refine n_dup (pc := 237) d_Md_init_237 rfl ?_
  refine n_bipush (pc := 238) d_Md_init_238 (by decide) (by decide) ?_
  refine n_ldcs (pc := 240) (x := 31) (tx := "turn") d_Md_init_240 (by decide +kernel) ?_
  refine n_astS (pc := 242) (o := 8) (N := 33) (r := 31) (i := 28) d_Md_init_242 (by decide) rfl (by decide) (by decide) ?_
  refine n_dup (pc := 243) d_Md_init_243 rfl ?_
  refine n_bipush (pc := 244) d_Md_init_244 (by decide) (by decide) ?_
  refine n_ldcs (pc := 246) (x := 32) (tx := "nodes") d_Md_init_246 (by decide +kernel) ?_
  refine n_astS (pc := 248) (o := 8) (N := 33) (r := 32) (i := 29) d_Md_init_248 (by decide) rfl (by decide) (by decide) ?_
  refine n_dup (pc := 249) d_Md_init_249 rfl ?_
  refine n_bipush (pc := 250) d_Md_init_250 (by decide) (by decide) ?_
  refine n_ldcs (pc := 252) (x := 33) (tx := "degree") d_Md_init_252 (by decide +kernel) ?_
  refine n_astS (pc := 254) (o := 8) (N := 33) (r := 33) (i := 30) d_Md_init_254 (by decide) rfl (by decide) (by decide) ?_
  refine n_dup (pc := 255) d_Md_init_255 rfl ?_
  refine n_bipush (pc := 256) d_Md_init_256 (by decide) (by decide) ?_
  refine n_ldcs (pc := 258) (x := 34) (tx := "indegree") d_Md_init_258 (by decide +kernel) ?_
  refine n_astS (pc := 260) (o := 8) (N := 33) (r := 34) (i := 31) d_Md_init_260 (by decide) rfl (by decide) (by decide) ?_
  refine n_dup (pc := 261) d_Md_init_261 rfl ?_
  refine n_bipush (pc := 262) d_Md_init_262 (by decide) (by decide) ?_
  refine n_ldcs (pc := 264) (x := 35) (tx := "draw") d_Md_init_264 (by decide +kernel) ?_
  refine n_astS (pc := 266) (o := 8) (N := 33) (r := 35) (i := 32) d_Md_init_266 (by decide) rfl (by decide) (by decide) ?_
  refine n_putr (pc := 267) (o := 0) (ci := 13) (f := 12) (N := 93) (r := 8) d_Md_init_267 (Or.inr ⟨ff_Md_114, rfl⟩) (by decide) rfl (by decide) (Or.inr ⟨_, rfl⟩) (by decide) ?_
  exact hK
set_option maxRecDepth 20000 in
set_option maxHeartbeats 4000000 in
theorem n_Md_s1 {g : Mg} {lo : Nat} {K : Wd → Prop} {w : Wd}  (hK : NV g LM.ly szM lo 54 jMd_init 12 1 54 K 411 [(0, vA 0)] [] 10 (up (up (up (up (up (up (up (up (up (up (up (up (up (up (up (up (up (up (up (up (up (up (up (up w 9 0 ((1037 : Nat) : Int)) 9 1 ((1038 : Nat) : Int)) 9 2 ((1039 : Nat) : Int)) 9 3 ((1040 : Nat) : Int)) 9 4 ((1041 : Nat) : Int)) 9 5 ((1042 : Nat) : Int)) 9 6 ((1043 : Nat) : Int)) 9 7 ((1044 : Nat) : Int)) 9 8 ((1045 : Nat) : Int)) 9 9 ((1046 : Nat) : Int)) 9 10 ((1047 : Nat) : Int)) 9 11 ((1048 : Nat) : Int)) 9 12 ((1049 : Nat) : Int)) 9 13 ((1050 : Nat) : Int)) 9 14 ((1051 : Nat) : Int)) 9 15 ((1052 : Nat) : Int)) 9 16 ((1053 : Nat) : Int)) 9 17 ((1054 : Nat) : Int)) 9 18 ((1055 : Nat) : Int)) 9 19 ((1056 : Nat) : Int)) 9 20 ((1057 : Nat) : Int)) 9 21 ((1058 : Nat) : Int)) 9 22 ((1059 : Nat) : Int)) 0 13 ((9 : Nat) : Int))) : NV g LM.ly szM lo 54 jMd_init 12 1 54 K 270 [(0, vA 0)] [] 9 w := by
  refine n_aload_n (pc := 270) (i := 0) (x := 0) d_Md_init_270 rfl (.head _) ?_
  refine n_bipush (pc := 271) (x := (23 : Nat)) d_Md_init_271 (by decide) (by decide) ?_
  refine n_newQ (pc := 273) (k := 9) (kd := 104) (N := 23) (t0 := 4) (C := "java/lang/String") d_Md_init_273 (mt_6 146 rfl rfl) (Or.inr rfl) rfl rfl (by decide) (by decide) (by decide) (by decide) rfl (by decide) ?_
  refine n_dup (pc := 276) d_Md_init_276 rfl ?_
  refine n_iconst (pc := 277) d_Md_init_277 (by decide) ?_
  refine n_ldcs (pc := 278) (x := 36) (tx := "==") d_Md_init_278 (by decide +kernel) ?_
  refine n_astS (pc := 280) (o := 9) (N := 23) (r := 36) (i := 0) d_Md_init_280 (by decide) rfl (by decide) (by decide) ?_
  refine n_dup (pc := 281) d_Md_init_281 rfl ?_
  refine n_iconst (pc := 282) d_Md_init_282 (by decide) ?_
  refine n_ldcs (pc := 283) (x := 37) (tx := "!=") d_Md_init_283 (by decide +kernel) ?_
  refine n_astS (pc := 285) (o := 9) (N := 23) (r := 37) (i := 1) d_Md_init_285 (by decide) rfl (by decide) (by decide) ?_
  refine n_dup (pc := 286) d_Md_init_286 rfl ?_
  refine n_iconst (pc := 287) d_Md_init_287 (by decide) ?_
  refine n_ldcs (pc := 288) (x := 38) (tx := "<=") d_Md_init_288 (by decide +kernel) ?_
  refine n_astS (pc := 290) (o := 9) (N := 23) (r := 38) (i := 2) d_Md_init_290 (by decide) rfl (by decide) (by decide) ?_
  refine n_dup (pc := 291) d_Md_init_291 rfl ?_
  refine n_iconst (pc := 292) d_Md_init_292 (by decide) ?_
  refine n_ldcs (pc := 293) (x := 39) (tx := ">=") d_Md_init_293 (by decide +kernel) ?_
  refine n_astS (pc := 295) (o := 9) (N := 23) (r := 39) (i := 3) d_Md_init_295 (by decide) rfl (by decide) (by decide) ?_
  refine n_dup (pc := 296) d_Md_init_296 rfl ?_
  refine n_iconst (pc := 297) d_Md_init_297 (by decide) ?_
  refine n_ldcs (pc := 298) (x := 40) (tx := "&&") d_Md_init_298 (by decide +kernel) ?_
  refine n_astS (pc := 300) (o := 9) (N := 23) (r := 40) (i := 4) d_Md_init_300 (by decide) rfl (by decide) (by decide) ?_
  refine n_dup (pc := 301) d_Md_init_301 rfl ?_
  refine n_iconst (pc := 302) d_Md_init_302 (by decide) ?_
  refine n_ldcs (pc := 303) (x := 41) (tx := "||") d_Md_init_303 (by decide +kernel) ?_
  refine n_astS (pc := 305) (o := 9) (N := 23) (r := 41) (i := 5) d_Md_init_305 (by decide) rfl (by decide) (by decide) ?_
  refine n_dup (pc := 306) d_Md_init_306 rfl ?_
  refine n_bipush (pc := 307) d_Md_init_307 (by decide) (by decide) ?_
  refine n_ldcs (pc := 309) (x := 42) (tx := ";") d_Md_init_309 (by decide +kernel) ?_
  refine n_astS (pc := 311) (o := 9) (N := 23) (r := 42) (i := 6) d_Md_init_311 (by decide) rfl (by decide) (by decide) ?_
  refine n_dup (pc := 312) d_Md_init_312 rfl ?_
  refine n_bipush (pc := 313) d_Md_init_313 (by decide) (by decide) ?_
  refine n_ldcs (pc := 315) (x := 43) (tx := "{") d_Md_init_315 (by decide +kernel) ?_
  refine n_astS (pc := 317) (o := 9) (N := 23) (r := 43) (i := 7) d_Md_init_317 (by decide) rfl (by decide) (by decide) ?_
  refine n_dup (pc := 318) d_Md_init_318 rfl ?_
  refine n_bipush (pc := 319) d_Md_init_319 (by decide) (by decide) ?_
  refine n_ldcs (pc := 321) (x := 44) (tx := "}") d_Md_init_321 (by decide +kernel) ?_
  refine n_astS (pc := 323) (o := 9) (N := 23) (r := 44) (i := 8) d_Md_init_323 (by decide) rfl (by decide) (by decide) ?_
  refine n_dup (pc := 324) d_Md_init_324 rfl ?_
  refine n_bipush (pc := 325) d_Md_init_325 (by decide) (by decide) ?_
  refine n_ldcs (pc := 327) (x := 45) (tx := "(") d_Md_init_327 (by decide +kernel) ?_
  refine n_astS (pc := 329) (o := 9) (N := 23) (r := 45) (i := 9) d_Md_init_329 (by decide) rfl (by decide) (by decide) ?_
  refine n_dup (pc := 330) d_Md_init_330 rfl ?_
  refine n_bipush (pc := 331) d_Md_init_331 (by decide) (by decide) ?_
  refine n_ldcs (pc := 333) (x := 46) (tx := ")") d_Md_init_333 (by decide +kernel) ?_
  refine n_astS (pc := 335) (o := 9) (N := 23) (r := 46) (i := 10) d_Md_init_335 (by decide) rfl (by decide) (by decide) ?_
  refine n_dup (pc := 336) d_Md_init_336 rfl ?_
  refine n_bipush (pc := 337) d_Md_init_337 (by decide) (by decide) ?_
  refine n_ldcs (pc := 339) (x := 47) (tx := ",") d_Md_init_339 (by decide +kernel) ?_
  refine n_astS (pc := 341) (o := 9) (N := 23) (r := 47) (i := 11) d_Md_init_341 (by decide) rfl (by decide) (by decide) ?_
  refine n_dup (pc := 342) d_Md_init_342 rfl ?_
  refine n_bipush (pc := 343) d_Md_init_343 (by decide) (by decide) ?_
  refine n_ldcs (pc := 345) (x := 48) (tx := ".") d_Md_init_345 (by decide +kernel) ?_
  refine n_astS (pc := 347) (o := 9) (N := 23) (r := 48) (i := 12) d_Md_init_347 (by decide) rfl (by decide) (by decide) ?_
  refine n_dup (pc := 348) d_Md_init_348 rfl ?_
  refine n_bipush (pc := 349) d_Md_init_349 (by decide) (by decide) ?_
  refine n_ldcs (pc := 351) (x := 49) (tx := ":") d_Md_init_351 (by decide +kernel) ?_
  refine n_astS (pc := 353) (o := 9) (N := 23) (r := 49) (i := 13) d_Md_init_353 (by decide) rfl (by decide) (by decide) ?_
  refine n_dup (pc := 354) d_Md_init_354 rfl ?_
  refine n_bipush (pc := 355) d_Md_init_355 (by decide) (by decide) ?_
  refine n_ldcs (pc := 357) (x := 50) (tx := "=") d_Md_init_357 (by decide +kernel) ?_
  refine n_astS (pc := 359) (o := 9) (N := 23) (r := 50) (i := 14) d_Md_init_359 (by decide) rfl (by decide) (by decide) ?_
  refine n_dup (pc := 360) d_Md_init_360 rfl ?_
  refine n_bipush (pc := 361) d_Md_init_361 (by decide) (by decide) ?_
  refine n_ldcs (pc := 363) (x := 51) (tx := "<") d_Md_init_363 (by decide +kernel) ?_
  refine n_astS (pc := 365) (o := 9) (N := 23) (r := 51) (i := 15) d_Md_init_365 (by decide) rfl (by decide) (by decide) ?_
  refine n_dup (pc := 366) d_Md_init_366 rfl ?_
  refine n_bipush (pc := 367) d_Md_init_367 (by decide) (by decide) ?_
  refine n_ldcs (pc := 369) (x := 52) (tx := ">") d_Md_init_369 (by decide +kernel) ?_
  refine n_astS (pc := 371) (o := 9) (N := 23) (r := 52) (i := 16) d_Md_init_371 (by decide) rfl (by decide) (by decide) ?_
  refine n_dup (pc := 372) d_Md_init_372 rfl ?_
  refine n_bipush (pc := 373) d_Md_init_373 (by decide) (by decide) ?_
  refine n_ldcs (pc := 375) (x := 53) (tx := "+") d_Md_init_375 (by decide +kernel) ?_
  refine n_astS (pc := 377) (o := 9) (N := 23) (r := 53) (i := 17) d_Md_init_377 (by decide) rfl (by decide) (by decide) ?_
  refine n_dup (pc := 378) d_Md_init_378 rfl ?_
  refine n_bipush (pc := 379) d_Md_init_379 (by decide) (by decide) ?_
  refine n_ldcs (pc := 381) (x := 54) (tx := "-") d_Md_init_381 (by decide +kernel) ?_
  refine n_astS (pc := 383) (o := 9) (N := 23) (r := 54) (i := 18) d_Md_init_383 (by decide) rfl (by decide) (by decide) ?_
  refine n_dup (pc := 384) d_Md_init_384 rfl ?_
  refine n_bipush (pc := 385) d_Md_init_385 (by decide) (by decide) ?_
  refine n_ldcs (pc := 387) (x := 55) (tx := "*") d_Md_init_387 (by decide +kernel) ?_
  refine n_astS (pc := 389) (o := 9) (N := 23) (r := 55) (i := 19) d_Md_init_389 (by decide) rfl (by decide) (by decide) ?_
  refine n_dup (pc := 390) d_Md_init_390 rfl ?_
  refine n_bipush (pc := 391) d_Md_init_391 (by decide) (by decide) ?_
  refine n_ldcs (pc := 393) (x := 56) (tx := "/") d_Md_init_393 (by decide +kernel) ?_
  refine n_astS (pc := 395) (o := 9) (N := 23) (r := 56) (i := 20) d_Md_init_395 (by decide) rfl (by decide) (by decide) ?_
  refine n_dup (pc := 396) d_Md_init_396 rfl ?_
  refine n_bipush (pc := 397) d_Md_init_397 (by decide) (by decide) ?_
  refine n_ldcs (pc := 399) (x := 57) (tx := "%") d_Md_init_399 (by decide +kernel) ?_
  refine n_astS (pc := 401) (o := 9) (N := 23) (r := 57) (i := 21) d_Md_init_401 (by decide) rfl (by decide) (by decide) ?_
  refine n_dup (pc := 402) d_Md_init_402 rfl ?_
  refine n_bipush (pc := 403) d_Md_init_403 (by decide) (by decide) ?_
  refine n_ldcs (pc := 405) (x := 58) (tx := "!") d_Md_init_405 (by decide +kernel) ?_
  refine n_astS (pc := 407) (o := 9) (N := 23) (r := 58) (i := 22) d_Md_init_407 (by decide) rfl (by decide) (by decide) ?_
  refine n_putr (pc := 408) (o := 0) (ci := 13) (f := 13) (N := 93) (r := 9) d_Md_init_408 (Or.inr ⟨ff_Md_164, rfl⟩) (by decide) rfl (by decide) (Or.inr ⟨_, rfl⟩) (by decide) ?_
  exact hK
set_option maxRecDepth 20000 in
set_option maxHeartbeats 4000000 in
theorem n_Md_s2 {g : Mg} {lo : Nat} {K : Wd → Prop} {w : Wd}  (hK : NV g LM.ly szM lo 54 jMd_init 12 1 54 K 538 [(0, vA 0)] [] 25 (up (up (up (up (up (up (up (up (up (up (up (up (up (up (up w 0 14 ((10 : Nat) : Int)) 0 15 ((11 : Nat) : Int)) 0 16 ((12 : Nat) : Int)) 0 17 ((13 : Nat) : Int)) 0 18 ((14 : Nat) : Int)) 0 19 ((15 : Nat) : Int)) 0 21 ((16 : Nat) : Int)) 0 22 ((17 : Nat) : Int)) 0 23 ((18 : Nat) : Int)) 0 24 ((19 : Nat) : Int)) 0 25 ((20 : Nat) : Int)) 0 26 ((21 : Nat) : Int)) 0 27 ((22 : Nat) : Int)) 0 28 ((23 : Nat) : Int)) 0 29 ((24 : Nat) : Int))) : NV g LM.ly szM lo 54 jMd_init 12 1 54 K 411 [(0, vA 0)] [] 10 w := by
  refine n_aload_n (pc := 411) (i := 0) (x := 0) d_Md_init_411 rfl (.head _) ?_
  refine n_bipush (pc := 412) (x := (30 : Nat)) d_Md_init_412 (by decide) (by decide) ?_
  refine n_newI (pc := 414) (k := 10) (N := 30) d_Md_init_414 rfl (by decide) (by decide) (by decide) rfl (by decide) (mt_1 76 rfl rfl) ?_
  refine n_putr (pc := 416) (o := 0) (ci := 13) (f := 14) (N := 93) (r := 10) d_Md_init_416 (Or.inr ⟨ff_Md_167, rfl⟩) (by decide) rfl (by decide) (Or.inr ⟨_, rfl⟩) (by decide) ?_
  refine n_aload_n (pc := 419) (i := 0) (x := 0) d_Md_init_419 rfl (.head _) ?_
  refine n_bipush (pc := 420) (x := (30 : Nat)) d_Md_init_420 (by decide) (by decide) ?_
  refine n_newI (pc := 422) (k := 11) (N := 30) d_Md_init_422 rfl (by decide) (by decide) (by decide) rfl (by decide) (mt_1 76 rfl rfl) ?_
  refine n_putr (pc := 424) (o := 0) (ci := 13) (f := 15) (N := 93) (r := 11) d_Md_init_424 (Or.inr ⟨ff_Md_170, rfl⟩) (by decide) rfl (by decide) (Or.inr ⟨_, rfl⟩) (by decide) ?_
  refine n_aload_n (pc := 427) (i := 0) (x := 0) d_Md_init_427 rfl (.head _) ?_
  refine n_bipush (pc := 428) (x := (30 : Nat)) d_Md_init_428 (by decide) (by decide) ?_
  refine n_newI (pc := 430) (k := 12) (N := 30) d_Md_init_430 rfl (by decide) (by decide) (by decide) rfl (by decide) (mt_1 76 rfl rfl) ?_
  refine n_putr (pc := 432) (o := 0) (ci := 13) (f := 16) (N := 93) (r := 12) d_Md_init_432 (Or.inr ⟨ff_Md_173, rfl⟩) (by decide) rfl (by decide) (Or.inr ⟨_, rfl⟩) (by decide) ?_
  refine n_aload_n (pc := 435) (i := 0) (x := 0) d_Md_init_435 rfl (.head _) ?_
  refine n_bipush (pc := 436) (x := (30 : Nat)) d_Md_init_436 (by decide) (by decide) ?_
  refine n_newI (pc := 438) (k := 13) (N := 30) d_Md_init_438 rfl (by decide) (by decide) (by decide) rfl (by decide) (mt_1 76 rfl rfl) ?_
  refine n_putr (pc := 440) (o := 0) (ci := 13) (f := 17) (N := 93) (r := 13) d_Md_init_440 (Or.inr ⟨ff_Md_176, rfl⟩) (by decide) rfl (by decide) (Or.inr ⟨_, rfl⟩) (by decide) ?_
  refine n_aload_n (pc := 443) (i := 0) (x := 0) d_Md_init_443 rfl (.head _) ?_
  refine n_bipush (pc := 444) (x := (30 : Nat)) d_Md_init_444 (by decide) (by decide) ?_
  refine n_newI (pc := 446) (k := 14) (N := 30) d_Md_init_446 rfl (by decide) (by decide) (by decide) rfl (by decide) (mt_1 76 rfl rfl) ?_
  refine n_putr (pc := 448) (o := 0) (ci := 13) (f := 18) (N := 93) (r := 14) d_Md_init_448 (Or.inr ⟨ff_Md_179, rfl⟩) (by decide) rfl (by decide) (Or.inr ⟨_, rfl⟩) (by decide) ?_
  refine n_aload_n (pc := 451) (i := 0) (x := 0) d_Md_init_451 rfl (.head _) ?_
  refine n_bipush (pc := 452) (x := (30 : Nat)) d_Md_init_452 (by decide) (by decide) ?_
  refine n_newI (pc := 454) (k := 15) (N := 30) d_Md_init_454 rfl (by decide) (by decide) (by decide) rfl (by decide) (mt_1 76 rfl rfl) ?_
  refine n_putr (pc := 456) (o := 0) (ci := 13) (f := 19) (N := 93) (r := 15) d_Md_init_456 (Or.inr ⟨ff_Md_182, rfl⟩) (by decide) rfl (by decide) (Or.inr ⟨_, rfl⟩) (by decide) ?_
  refine n_aload_n (pc := 459) (i := 0) (x := 0) d_Md_init_459 rfl (.head _) ?_
  refine n_iconst (pc := 460) (x := (5 : Nat)) d_Md_init_460 (by decide) ?_
  refine n_newI (pc := 461) (k := 16) (N := 5) d_Md_init_461 rfl (by decide) (by decide) (by decide) rfl (by decide) (mt_1 76 rfl rfl) ?_
  refine n_putr (pc := 463) (o := 0) (ci := 13) (f := 21) (N := 93) (r := 16) d_Md_init_463 (Or.inr ⟨ff_Md_185, rfl⟩) (by decide) rfl (by decide) (Or.inr ⟨_, rfl⟩) (by decide) ?_
  refine n_aload_n (pc := 466) (i := 0) (x := 0) d_Md_init_466 rfl (.head _) ?_
  refine n_sipush (pc := 467) (x := (130 : Nat)) d_Md_init_467 (by decide) (by decide) ?_
  refine n_newI (pc := 470) (k := 17) (N := 130) d_Md_init_470 rfl (by decide) (by decide) (by decide) rfl (by decide) (mt_1 76 rfl rfl) ?_
  refine n_putr (pc := 472) (o := 0) (ci := 13) (f := 22) (N := 93) (r := 17) d_Md_init_472 (Or.inr ⟨ff_Md_188, rfl⟩) (by decide) rfl (by decide) (Or.inr ⟨_, rfl⟩) (by decide) ?_
  refine n_aload_n (pc := 475) (i := 0) (x := 0) d_Md_init_475 rfl (.head _) ?_
  refine n_sipush (pc := 476) (x := (130 : Nat)) d_Md_init_476 (by decide) (by decide) ?_
  refine n_newI (pc := 479) (k := 18) (N := 130) d_Md_init_479 rfl (by decide) (by decide) (by decide) rfl (by decide) (mt_1 76 rfl rfl) ?_
  refine n_putr (pc := 481) (o := 0) (ci := 13) (f := 23) (N := 93) (r := 18) d_Md_init_481 (Or.inr ⟨ff_Md_191, rfl⟩) (by decide) rfl (by decide) (Or.inr ⟨_, rfl⟩) (by decide) ?_
  refine n_aload_n (pc := 484) (i := 0) (x := 0) d_Md_init_484 rfl (.head _) ?_
  refine n_sipush (pc := 485) (x := (130 : Nat)) d_Md_init_485 (by decide) (by decide) ?_
  refine n_newI (pc := 488) (k := 19) (N := 130) d_Md_init_488 rfl (by decide) (by decide) (by decide) rfl (by decide) (mt_1 76 rfl rfl) ?_
  refine n_putr (pc := 490) (o := 0) (ci := 13) (f := 24) (N := 93) (r := 19) d_Md_init_490 (Or.inr ⟨ff_Md_194, rfl⟩) (by decide) rfl (by decide) (Or.inr ⟨_, rfl⟩) (by decide) ?_
  refine n_aload_n (pc := 493) (i := 0) (x := 0) d_Md_init_493 rfl (.head _) ?_
  refine n_sipush (pc := 494) (x := (130 : Nat)) d_Md_init_494 (by decide) (by decide) ?_
  refine n_newI (pc := 497) (k := 20) (N := 130) d_Md_init_497 rfl (by decide) (by decide) (by decide) rfl (by decide) (mt_1 76 rfl rfl) ?_
  refine n_putr (pc := 499) (o := 0) (ci := 13) (f := 25) (N := 93) (r := 20) d_Md_init_499 (Or.inr ⟨ff_Md_197, rfl⟩) (by decide) rfl (by decide) (Or.inr ⟨_, rfl⟩) (by decide) ?_
  refine n_aload_n (pc := 502) (i := 0) (x := 0) d_Md_init_502 rfl (.head _) ?_
  refine n_sipush (pc := 503) (x := (130 : Nat)) d_Md_init_503 (by decide) (by decide) ?_
  refine n_newI (pc := 506) (k := 21) (N := 130) d_Md_init_506 rfl (by decide) (by decide) (by decide) rfl (by decide) (mt_1 76 rfl rfl) ?_
  refine n_putr (pc := 508) (o := 0) (ci := 13) (f := 26) (N := 93) (r := 21) d_Md_init_508 (Or.inr ⟨ff_Md_200, rfl⟩) (by decide) rfl (by decide) (Or.inr ⟨_, rfl⟩) (by decide) ?_
  refine n_aload_n (pc := 511) (i := 0) (x := 0) d_Md_init_511 rfl (.head _) ?_
  refine n_sipush (pc := 512) (x := (130 : Nat)) d_Md_init_512 (by decide) (by decide) ?_
  refine n_newI (pc := 515) (k := 22) (N := 130) d_Md_init_515 rfl (by decide) (by decide) (by decide) rfl (by decide) (mt_1 76 rfl rfl) ?_
  refine n_putr (pc := 517) (o := 0) (ci := 13) (f := 27) (N := 93) (r := 22) d_Md_init_517 (Or.inr ⟨ff_Md_203, rfl⟩) (by decide) rfl (by decide) (Or.inr ⟨_, rfl⟩) (by decide) ?_
  refine n_aload_n (pc := 520) (i := 0) (x := 0) d_Md_init_520 rfl (.head _) ?_
  refine n_sipush (pc := 521) (x := (130 : Nat)) d_Md_init_521 (by decide) (by decide) ?_
  refine n_newI (pc := 524) (k := 23) (N := 130) d_Md_init_524 rfl (by decide) (by decide) (by decide) rfl (by decide) (mt_1 76 rfl rfl) ?_
  refine n_putr (pc := 526) (o := 0) (ci := 13) (f := 28) (N := 93) (r := 23) d_Md_init_526 (Or.inr ⟨ff_Md_206, rfl⟩) (by decide) rfl (by decide) (Or.inr ⟨_, rfl⟩) (by decide) ?_
  refine n_aload_n (pc := 529) (i := 0) (x := 0) d_Md_init_529 rfl (.head _) ?_
  refine n_sipush (pc := 530) (x := (130 : Nat)) d_Md_init_530 (by decide) (by decide) ?_
  refine n_newI (pc := 533) (k := 24) (N := 130) d_Md_init_533 rfl (by decide) (by decide) (by decide) rfl (by decide) (mt_1 76 rfl rfl) ?_
  refine n_putr (pc := 535) (o := 0) (ci := 13) (f := 29) (N := 93) (r := 24) d_Md_init_535 (Or.inr ⟨ff_Md_209, rfl⟩) (by decide) rfl (by decide) (Or.inr ⟨_, rfl⟩) (by decide) ?_
  exact hK
set_option maxRecDepth 20000 in
set_option maxHeartbeats 4000000 in
theorem n_Md_s3 {g : Mg} {lo : Nat} {K : Wd → Prop} {w : Wd}  (hK : NV g LM.ly szM lo 54 jMd_init 12 1 54 K 674 [(0, vA 0)] [] 39 (up (up (up (up (up (up (up (up (up (up (up (up (up (up (up (up w 0 30 ((25 : Nat) : Int)) 0 32 ((26 : Nat) : Int)) 0 33 ((27 : Nat) : Int)) 0 34 ((28 : Nat) : Int)) 0 35 ((29 : Nat) : Int)) 0 36 ((30 : Nat) : Int)) 0 37 ((31 : Nat) : Int)) 0 38 ((32 : Nat) : Int)) 0 39 ((33 : Nat) : Int)) 0 48 ((34 : Nat) : Int)) 0 49 ((35 : Nat) : Int)) 0 54 ((36 : Nat) : Int)) 0 55 (-2)) 0 56 (-2)) 0 57 ((37 : Nat) : Int)) 0 61 ((38 : Nat) : Int))) : NV g LM.ly szM lo 54 jMd_init 12 1 54 K 538 [(0, vA 0)] [] 25 w := by
  refine n_aload_n (pc := 538) (i := 0) (x := 0) d_Md_init_538 rfl (.head _) ?_
  refine n_sipush (pc := 539) (x := (130 : Nat)) d_Md_init_539 (by decide) (by decide) ?_
  refine n_newZ (pc := 542) (k := 25) (N := 130) d_Md_init_542 rfl (by decide) (by decide) (by decide) rfl (by decide) (mt_2 25 rfl rfl) ?_
  refine n_putr (pc := 544) (o := 0) (ci := 13) (f := 30) (N := 93) (r := 25) d_Md_init_544 (Or.inr ⟨ff_Md_212, rfl⟩) (by decide) rfl (by decide) (Or.inr ⟨_, rfl⟩) (by decide) ?_
  refine n_aload_n (pc := 547) (i := 0) (x := 0) d_Md_init_547 rfl (.head _) ?_
  refine n_sipush (pc := 548) (x := (2000 : Nat)) d_Md_init_548 (by decide) (by decide) ?_
  refine n_newI (pc := 551) (k := 26) (N := 2000) d_Md_init_551 rfl (by decide) (by decide) (by decide) rfl (by decide) (mt_1 76 rfl rfl) ?_
  refine n_putr (pc := 553) (o := 0) (ci := 13) (f := 32) (N := 93) (r := 26) d_Md_init_553 (Or.inr ⟨ff_Md_216, rfl⟩) (by decide) rfl (by decide) (Or.inr ⟨_, rfl⟩) (by decide) ?_
  refine n_aload_n (pc := 556) (i := 0) (x := 0) d_Md_init_556 rfl (.head _) ?_
  refine n_sipush (pc := 557) (x := (2000 : Nat)) d_Md_init_557 (by decide) (by decide) ?_
  refine n_newI (pc := 560) (k := 27) (N := 2000) d_Md_init_560 rfl (by decide) (by decide) (by decide) rfl (by decide) (mt_1 76 rfl rfl) ?_
  refine n_putr (pc := 562) (o := 0) (ci := 13) (f := 33) (N := 93) (r := 27) d_Md_init_562 (Or.inr ⟨ff_Md_219, rfl⟩) (by decide) rfl (by decide) (Or.inr ⟨_, rfl⟩) (by decide) ?_
  refine n_aload_n (pc := 565) (i := 0) (x := 0) d_Md_init_565 rfl (.head _) ?_
  refine n_sipush (pc := 566) (x := (2000 : Nat)) d_Md_init_566 (by decide) (by decide) ?_
  refine n_newI (pc := 569) (k := 28) (N := 2000) d_Md_init_569 rfl (by decide) (by decide) (by decide) rfl (by decide) (mt_1 76 rfl rfl) ?_
  refine n_putr (pc := 571) (o := 0) (ci := 13) (f := 34) (N := 93) (r := 28) d_Md_init_571 (Or.inr ⟨ff_Md_222, rfl⟩) (by decide) rfl (by decide) (Or.inr ⟨_, rfl⟩) (by decide) ?_
  refine n_aload_n (pc := 574) (i := 0) (x := 0) d_Md_init_574 rfl (.head _) ?_
  refine n_sipush (pc := 575) (x := (2000 : Nat)) d_Md_init_575 (by decide) (by decide) ?_
  refine n_newI (pc := 578) (k := 29) (N := 2000) d_Md_init_578 rfl (by decide) (by decide) (by decide) rfl (by decide) (mt_1 76 rfl rfl) ?_
  refine n_putr (pc := 580) (o := 0) (ci := 13) (f := 35) (N := 93) (r := 29) d_Md_init_580 (Or.inr ⟨ff_Md_225, rfl⟩) (by decide) rfl (by decide) (Or.inr ⟨_, rfl⟩) (by decide) ?_
  refine n_aload_n (pc := 583) (i := 0) (x := 0) d_Md_init_583 rfl (.head _) ?_
  refine n_sipush (pc := 584) (x := (2000 : Nat)) d_Md_init_584 (by decide) (by decide) ?_
  refine n_newI (pc := 587) (k := 30) (N := 2000) d_Md_init_587 rfl (by decide) (by decide) (by decide) rfl (by decide) (mt_1 76 rfl rfl) ?_
  refine n_putr (pc := 589) (o := 0) (ci := 13) (f := 36) (N := 93) (r := 30) d_Md_init_589 (Or.inr ⟨ff_Md_228, rfl⟩) (by decide) rfl (by decide) (Or.inr ⟨_, rfl⟩) (by decide) ?_
  refine n_aload_n (pc := 592) (i := 0) (x := 0) d_Md_init_592 rfl (.head _) ?_
  refine n_sipush (pc := 593) (x := (2000 : Nat)) d_Md_init_593 (by decide) (by decide) ?_
  refine n_newI (pc := 596) (k := 31) (N := 2000) d_Md_init_596 rfl (by decide) (by decide) (by decide) rfl (by decide) (mt_1 76 rfl rfl) ?_
  refine n_putr (pc := 598) (o := 0) (ci := 13) (f := 37) (N := 93) (r := 31) d_Md_init_598 (Or.inr ⟨ff_Md_231, rfl⟩) (by decide) rfl (by decide) (Or.inr ⟨_, rfl⟩) (by decide) ?_
  refine n_aload_n (pc := 601) (i := 0) (x := 0) d_Md_init_601 rfl (.head _) ?_
  refine n_sipush (pc := 602) (x := (2000 : Nat)) d_Md_init_602 (by decide) (by decide) ?_
  refine n_newI (pc := 605) (k := 32) (N := 2000) d_Md_init_605 rfl (by decide) (by decide) (by decide) rfl (by decide) (mt_1 76 rfl rfl) ?_
  refine n_putr (pc := 607) (o := 0) (ci := 13) (f := 38) (N := 93) (r := 32) d_Md_init_607 (Or.inr ⟨ff_Md_234, rfl⟩) (by decide) rfl (by decide) (Or.inr ⟨_, rfl⟩) (by decide) ?_
  refine n_aload_n (pc := 610) (i := 0) (x := 0) d_Md_init_610 rfl (.head _) ?_
  refine n_sipush (pc := 611) (x := (2000 : Nat)) d_Md_init_611 (by decide) (by decide) ?_
  refine n_newI (pc := 614) (k := 33) (N := 2000) d_Md_init_614 rfl (by decide) (by decide) (by decide) rfl (by decide) (mt_1 76 rfl rfl) ?_
  refine n_putr (pc := 616) (o := 0) (ci := 13) (f := 39) (N := 93) (r := 33) d_Md_init_616 (Or.inr ⟨ff_Md_237, rfl⟩) (by decide) rfl (by decide) (Or.inr ⟨_, rfl⟩) (by decide) ?_
  refine n_aload_n (pc := 619) (i := 0) (x := 0) d_Md_init_619 rfl (.head _) ?_
  refine n_sipush (pc := 620) (x := (130 : Nat)) d_Md_init_620 (by decide) (by decide) ?_
  refine n_newI (pc := 623) (k := 34) (N := 130) d_Md_init_623 rfl (by decide) (by decide) (by decide) rfl (by decide) (mt_1 76 rfl rfl) ?_
  refine n_putr (pc := 625) (o := 0) (ci := 13) (f := 48) (N := 93) (r := 34) d_Md_init_625 (Or.inr ⟨ff_Md_240, rfl⟩) (by decide) rfl (by decide) (Or.inr ⟨_, rfl⟩) (by decide) ?_
  refine n_aload_n (pc := 628) (i := 0) (x := 0) d_Md_init_628 rfl (.head _) ?_
  refine n_sipush (pc := 629) (x := (130 : Nat)) d_Md_init_629 (by decide) (by decide) ?_
  refine n_newI (pc := 632) (k := 35) (N := 130) d_Md_init_632 rfl (by decide) (by decide) (by decide) rfl (by decide) (mt_1 76 rfl rfl) ?_
  refine n_putr (pc := 634) (o := 0) (ci := 13) (f := 49) (N := 93) (r := 35) d_Md_init_634 (Or.inr ⟨ff_Md_243, rfl⟩) (by decide) rfl (by decide) (Or.inr ⟨_, rfl⟩) (by decide) ?_
  refine n_aload_n (pc := 637) (i := 0) (x := 0) d_Md_init_637 rfl (.head _) ?_
  refine n_bipush (pc := 638) (x := (30 : Nat)) d_Md_init_638 (by decide) (by decide) ?_
  refine n_newZ (pc := 640) (k := 36) (N := 30) d_Md_init_640 rfl (by decide) (by decide) (by decide) rfl (by decide) (mt_2 25 rfl rfl) ?_
  refine n_putr (pc := 642) (o := 0) (ci := 13) (f := 54) (N := 93) (r := 36) d_Md_init_642 (Or.inr ⟨ff_Md_246, rfl⟩) (by decide) rfl (by decide) (Or.inr ⟨_, rfl⟩) (by decide) ?_
  refine n_aload_n (pc := 645) (i := 0) (x := 0) d_Md_init_645 rfl (.head _) ?_
  refine n_bipush (pc := 646) d_Md_init_646 (by decide) (by decide) ?_
  refine n_puti (pc := 648) (o := 0) (ci := 13) (f := 55) (N := 93) d_Md_init_648 (Or.inl fp_Md_249) (by decide) rfl (by decide) rfl ?_
  refine n_aload_n (pc := 651) (i := 0) (x := 0) d_Md_init_651 rfl (.head _) ?_
  refine n_bipush (pc := 652) d_Md_init_652 (by decide) (by decide) ?_
  refine n_puti (pc := 654) (o := 0) (ci := 13) (f := 56) (N := 93) d_Md_init_654 (Or.inl fp_Md_252) (by decide) rfl (by decide) rfl ?_
  refine n_aload_n (pc := 657) (i := 0) (x := 0) d_Md_init_657 rfl (.head _) ?_
  refine n_sipush (pc := 658) (x := (12000 : Nat)) d_Md_init_658 (by decide) (by decide) ?_
  refine n_newB (pc := 661) (k := 37) (N := 12000) d_Md_init_661 rfl (by decide) (by decide) (by decide) rfl (by decide) (mt_1 75 rfl rfl) ?_
  refine n_putr (pc := 663) (o := 0) (ci := 13) (f := 57) (N := 93) (r := 37) d_Md_init_663 (Or.inr ⟨ff_Md_255, rfl⟩) (by decide) rfl (by decide) (Or.inr ⟨_, rfl⟩) (by decide) ?_
  refine n_aload_n (pc := 666) (i := 0) (x := 0) d_Md_init_666 rfl (.head _) ?_
  refine n_bipush (pc := 667) (x := (120 : Nat)) d_Md_init_667 (by decide) (by decide) ?_
  refine n_newI (pc := 669) (k := 38) (N := 120) d_Md_init_669 rfl (by decide) (by decide) (by decide) rfl (by decide) (mt_1 76 rfl rfl) ?_
  refine n_putr (pc := 671) (o := 0) (ci := 13) (f := 61) (N := 93) (r := 38) d_Md_init_671 (Or.inr ⟨ff_Md_258, rfl⟩) (by decide) rfl (by decide) (Or.inr ⟨_, rfl⟩) (by decide) ?_
  exact hK
set_option maxRecDepth 20000 in
set_option maxHeartbeats 4000000 in
theorem n_Md_s4 {g : Mg} {lo : Nat} {K : Wd → Prop} {w : Wd}  (hK : NV g LM.ly szM lo 54 jMd_init 12 1 54 K 799 [(0, vA 0)] [] 54 (up (up (up (up (up (up (up (up (up (up (up (up (up (up (up w 0 62 ((39 : Nat) : Int)) 0 63 ((40 : Nat) : Int)) 0 67 ((41 : Nat) : Int)) 0 68 ((42 : Nat) : Int)) 0 69 ((43 : Nat) : Int)) 0 70 ((44 : Nat) : Int)) 0 71 ((45 : Nat) : Int)) 0 72 ((46 : Nat) : Int)) 0 73 ((47 : Nat) : Int)) 0 74 ((48 : Nat) : Int)) 0 75 ((49 : Nat) : Int)) 0 76 ((50 : Nat) : Int)) 0 77 ((51 : Nat) : Int)) 0 79 ((52 : Nat) : Int)) 0 92 ((53 : Nat) : Int))) : NV g LM.ly szM lo 54 jMd_init 12 1 54 K 674 [(0, vA 0)] [] 39 w := by
  refine n_aload_n (pc := 674) (i := 0) (x := 0) d_Md_init_674 rfl (.head _) ?_
  refine n_bipush (pc := 675) (x := (120 : Nat)) d_Md_init_675 (by decide) (by decide) ?_
  refine n_newI (pc := 677) (k := 39) (N := 120) d_Md_init_677 rfl (by decide) (by decide) (by decide) rfl (by decide) (mt_1 76 rfl rfl) ?_
  refine n_putr (pc := 679) (o := 0) (ci := 13) (f := 62) (N := 93) (r := 39) d_Md_init_679 (Or.inr ⟨ff_Md_261, rfl⟩) (by decide) rfl (by decide) (Or.inr ⟨_, rfl⟩) (by decide) ?_
  refine n_aload_n (pc := 682) (i := 0) (x := 0) d_Md_init_682 rfl (.head _) ?_
  refine n_sipush (pc := 683) (x := (480 : Nat)) d_Md_init_683 (by decide) (by decide) ?_
  refine n_newI (pc := 686) (k := 40) (N := 480) d_Md_init_686 rfl (by decide) (by decide) (by decide) rfl (by decide) (mt_1 76 rfl rfl) ?_
  refine n_putr (pc := 688) (o := 0) (ci := 13) (f := 63) (N := 93) (r := 40) d_Md_init_688 (Or.inr ⟨ff_Md_264, rfl⟩) (by decide) rfl (by decide) (Or.inr ⟨_, rfl⟩) (by decide) ?_
  refine n_aload_n (pc := 691) (i := 0) (x := 0) d_Md_init_691 rfl (.head _) ?_
  refine n_sipush (pc := 692) (x := (320 : Nat)) d_Md_init_692 (by decide) (by decide) ?_
  refine n_newI (pc := 695) (k := 41) (N := 320) d_Md_init_695 rfl (by decide) (by decide) (by decide) rfl (by decide) (mt_1 76 rfl rfl) ?_
  refine n_putr (pc := 697) (o := 0) (ci := 13) (f := 67) (N := 93) (r := 41) d_Md_init_697 (Or.inr ⟨ff_Md_267, rfl⟩) (by decide) rfl (by decide) (Or.inr ⟨_, rfl⟩) (by decide) ?_
  refine n_aload_n (pc := 700) (i := 0) (x := 0) d_Md_init_700 rfl (.head _) ?_
  refine n_bipush (pc := 701) (x := (40 : Nat)) d_Md_init_701 (by decide) (by decide) ?_
  refine n_newZ (pc := 703) (k := 42) (N := 40) d_Md_init_703 rfl (by decide) (by decide) (by decide) rfl (by decide) (mt_2 25 rfl rfl) ?_
  refine n_putr (pc := 705) (o := 0) (ci := 13) (f := 68) (N := 93) (r := 42) d_Md_init_705 (Or.inr ⟨ff_Md_270, rfl⟩) (by decide) rfl (by decide) (Or.inr ⟨_, rfl⟩) (by decide) ?_
  refine n_aload_n (pc := 708) (i := 0) (x := 0) d_Md_init_708 rfl (.head _) ?_
  refine n_sipush (pc := 709) (x := (160 : Nat)) d_Md_init_709 (by decide) (by decide) ?_
  refine n_newI (pc := 712) (k := 43) (N := 160) d_Md_init_712 rfl (by decide) (by decide) (by decide) rfl (by decide) (mt_1 76 rfl rfl) ?_
  refine n_putr (pc := 714) (o := 0) (ci := 13) (f := 69) (N := 93) (r := 43) d_Md_init_714 (Or.inr ⟨ff_Md_273, rfl⟩) (by decide) rfl (by decide) (Or.inr ⟨_, rfl⟩) (by decide) ?_
  refine n_aload_n (pc := 717) (i := 0) (x := 0) d_Md_init_717 rfl (.head _) ?_
  refine n_sipush (pc := 718) (x := (160 : Nat)) d_Md_init_718 (by decide) (by decide) ?_
  refine n_newI (pc := 721) (k := 44) (N := 160) d_Md_init_721 rfl (by decide) (by decide) (by decide) rfl (by decide) (mt_1 76 rfl rfl) ?_
  refine n_putr (pc := 723) (o := 0) (ci := 13) (f := 70) (N := 93) (r := 44) d_Md_init_723 (Or.inr ⟨ff_Md_276, rfl⟩) (by decide) rfl (by decide) (Or.inr ⟨_, rfl⟩) (by decide) ?_
  refine n_aload_n (pc := 726) (i := 0) (x := 0) d_Md_init_726 rfl (.head _) ?_
  refine n_iconst (pc := 727) (x := (4 : Nat)) d_Md_init_727 (by decide) ?_
  refine n_newI (pc := 728) (k := 45) (N := 4) d_Md_init_728 rfl (by decide) (by decide) (by decide) rfl (by decide) (mt_1 76 rfl rfl) ?_
  refine n_putr (pc := 730) (o := 0) (ci := 13) (f := 71) (N := 93) (r := 45) d_Md_init_730 (Or.inr ⟨ff_Md_279, rfl⟩) (by decide) rfl (by decide) (Or.inr ⟨_, rfl⟩) (by decide) ?_
  refine n_aload_n (pc := 733) (i := 0) (x := 0) d_Md_init_733 rfl (.head _) ?_
  refine n_iconst (pc := 734) (x := (4 : Nat)) d_Md_init_734 (by decide) ?_
  refine n_newI (pc := 735) (k := 46) (N := 4) d_Md_init_735 rfl (by decide) (by decide) (by decide) rfl (by decide) (mt_1 76 rfl rfl) ?_
  refine n_putr (pc := 737) (o := 0) (ci := 13) (f := 72) (N := 93) (r := 46) d_Md_init_737 (Or.inr ⟨ff_Md_282, rfl⟩) (by decide) rfl (by decide) (Or.inr ⟨_, rfl⟩) (by decide) ?_
  refine n_aload_n (pc := 740) (i := 0) (x := 0) d_Md_init_740 rfl (.head _) ?_
  refine n_sipush (pc := 741) (x := (160 : Nat)) d_Md_init_741 (by decide) (by decide) ?_
  refine n_newI (pc := 744) (k := 47) (N := 160) d_Md_init_744 rfl (by decide) (by decide) (by decide) rfl (by decide) (mt_1 76 rfl rfl) ?_
  refine n_putr (pc := 746) (o := 0) (ci := 13) (f := 73) (N := 93) (r := 47) d_Md_init_746 (Or.inr ⟨ff_Md_285, rfl⟩) (by decide) rfl (by decide) (Or.inr ⟨_, rfl⟩) (by decide) ?_
  refine n_aload_n (pc := 749) (i := 0) (x := 0) d_Md_init_749 rfl (.head _) ?_
  refine n_sipush (pc := 750) (x := (160 : Nat)) d_Md_init_750 (by decide) (by decide) ?_
  refine n_newI (pc := 753) (k := 48) (N := 160) d_Md_init_753 rfl (by decide) (by decide) (by decide) rfl (by decide) (mt_1 76 rfl rfl) ?_
  refine n_putr (pc := 755) (o := 0) (ci := 13) (f := 74) (N := 93) (r := 48) d_Md_init_755 (Or.inr ⟨ff_Md_288, rfl⟩) (by decide) rfl (by decide) (Or.inr ⟨_, rfl⟩) (by decide) ?_
  refine n_aload_n (pc := 758) (i := 0) (x := 0) d_Md_init_758 rfl (.head _) ?_
  refine n_iconst (pc := 759) (x := (4 : Nat)) d_Md_init_759 (by decide) ?_
  refine n_newI (pc := 760) (k := 49) (N := 4) d_Md_init_760 rfl (by decide) (by decide) (by decide) rfl (by decide) (mt_1 76 rfl rfl) ?_
  refine n_putr (pc := 762) (o := 0) (ci := 13) (f := 75) (N := 93) (r := 49) d_Md_init_762 (Or.inr ⟨ff_Md_291, rfl⟩) (by decide) rfl (by decide) (Or.inr ⟨_, rfl⟩) (by decide) ?_
  refine n_aload_n (pc := 765) (i := 0) (x := 0) d_Md_init_765 rfl (.head _) ?_
  refine n_iconst (pc := 766) (x := (4 : Nat)) d_Md_init_766 (by decide) ?_
  refine n_newI (pc := 767) (k := 50) (N := 4) d_Md_init_767 rfl (by decide) (by decide) (by decide) rfl (by decide) (mt_1 76 rfl rfl) ?_
  refine n_putr (pc := 769) (o := 0) (ci := 13) (f := 76) (N := 93) (r := 50) d_Md_init_769 (Or.inr ⟨ff_Md_294, rfl⟩) (by decide) rfl (by decide) (Or.inr ⟨_, rfl⟩) (by decide) ?_
  refine n_aload_n (pc := 772) (i := 0) (x := 0) d_Md_init_772 rfl (.head _) ?_
  refine n_sipush (pc := 773) (x := (4200 : Nat)) d_Md_init_773 (by decide) (by decide) ?_
  refine n_newI (pc := 776) (k := 51) (N := 4200) d_Md_init_776 rfl (by decide) (by decide) (by decide) rfl (by decide) (mt_1 76 rfl rfl) ?_
  refine n_putr (pc := 778) (o := 0) (ci := 13) (f := 77) (N := 93) (r := 51) d_Md_init_778 (Or.inr ⟨ff_Md_297, rfl⟩) (by decide) rfl (by decide) (Or.inr ⟨_, rfl⟩) (by decide) ?_
  refine n_aload_n (pc := 781) (i := 0) (x := 0) d_Md_init_781 rfl (.head _) ?_
  refine n_sipush (pc := 782) (x := (700 : Nat)) d_Md_init_782 (by decide) (by decide) ?_
  refine n_newI (pc := 785) (k := 52) (N := 700) d_Md_init_785 rfl (by decide) (by decide) (by decide) rfl (by decide) (mt_1 76 rfl rfl) ?_
  refine n_putr (pc := 787) (o := 0) (ci := 13) (f := 79) (N := 93) (r := 52) d_Md_init_787 (Or.inr ⟨ff_Md_300, rfl⟩) (by decide) rfl (by decide) (Or.inr ⟨_, rfl⟩) (by decide) ?_
  refine n_aload_n (pc := 790) (i := 0) (x := 0) d_Md_init_790 rfl (.head _) ?_
  refine n_sipush (pc := 791) (x := (130 : Nat)) d_Md_init_791 (by decide) (by decide) ?_
  refine n_newI (pc := 794) (k := 53) (N := 130) d_Md_init_794 rfl (by decide) (by decide) (by decide) rfl (by decide) (mt_1 76 rfl rfl) ?_
  refine n_putr (pc := 796) (o := 0) (ci := 13) (f := 92) (N := 93) (r := 53) d_Md_init_796 (Or.inr ⟨ff_Md_303, rfl⟩) (by decide) rfl (by decide) (Or.inr ⟨_, rfl⟩) (by decide) ?_
  exact hK
set_option maxRecDepth 20000 in
set_option maxHeartbeats 4000000 in
theorem n_Md_s5 {g : Mg} {lo : Nat} {K : Wd → Prop} {w : Wd}  (hK : K (up (up w 0 0 0) 0 59 1)) : NV g LM.ly szM lo 54 jMd_init 12 1 54 K 799 [(0, vA 0)] [] 54 w := by
  refine n_aload_n (pc := 799) (i := 0) (x := 0) d_Md_init_799 rfl (.head _) ?_
  refine n_iconst (pc := 800) d_Md_init_800 (by decide) ?_
  refine n_puti (pc := 801) (o := 0) (ci := 13) (f := 0) (N := 93) d_Md_init_801 (Or.inl fp_Md_1) (by decide) rfl (by decide) rfl ?_
  refine n_aload_n (pc := 804) (i := 0) (x := 0) d_Md_init_804 rfl (.head _) ?_
  refine n_iconst (pc := 805) d_Md_init_805 (by decide) ?_
  refine n_puti (pc := 806) (o := 0) (ci := 13) (f := 59) (N := 93) d_Md_init_806 (Or.inl fp_Md_305) (by decide) rfl (by decide) rfl ?_
  exact n_vret (pc := 809) d_Md_init_809 rfl hK (by decide)
set_option maxRecDepth 20000 in
set_option maxHeartbeats 4000000 in
theorem n_Md {g : Mg} {lo : Nat} {K : Wd → Prop} {w : Wd}  (hK : K (up (up (up (up (up (up (up (up (up (up (up (up (up (up (up (up (up (up (up (up (up (up (up (up (up (up (up (up (up (up (up (up (up (up (up (up (up (up (up (up (up (up (up (up (up (up (up (up (up (up (up (up (up (up (up (up (up (up (up (up (up (up (up (up (up (up (up (up (up (up (up (up (up (up (up (up (up (up (up (up (up (up (up (up (up (up (up (up (up (up (up (up (up (up (up (up (up (up (up (up (up (up (up (up (up (up (up (up (up (up (up (up (up w 0 1 ((1 : Nat) : Int)) 0 2 ((2 : Nat) : Int)) 0 4 ((3 : Nat) : Int)) 0 6 ((4 : Nat) : Int)) 0 7 ((5 : Nat) : Int)) 0 8 ((6 : Nat) : Int)) 0 9 ((7 : Nat) : Int)) 8 0 ((1004 : Nat) : Int)) 8 1 ((1005 : Nat) : Int)) 8 2 ((1006 : Nat) : Int)) 8 3 ((1007 : Nat) : Int)) 8 4 ((1008 : Nat) : Int)) 8 5 ((1009 : Nat) : Int)) 8 6 ((1010 : Nat) : Int)) 8 7 ((1011 : Nat) : Int)) 8 8 ((1012 : Nat) : Int)) 8 9 ((1013 : Nat) : Int)) 8 10 ((1014 : Nat) : Int)) 8 11 ((1015 : Nat) : Int)) 8 12 ((1016 : Nat) : Int)) 8 13 ((1017 : Nat) : Int)) 8 14 ((1018 : Nat) : Int)) 8 15 ((1019 : Nat) : Int)) 8 16 ((1020 : Nat) : Int)) 8 17 ((1021 : Nat) : Int)) 8 18 ((1022 : Nat) : Int)) 8 19 ((1023 : Nat) : Int)) 8 20 ((1024 : Nat) : Int)) 8 21 ((1025 : Nat) : Int)) 8 22 ((1026 : Nat) : Int)) 8 23 ((1027 : Nat) : Int)) 8 24 ((1028 : Nat) : Int)) 8 25 ((1029 : Nat) : Int)) 8 26 ((1030 : Nat) : Int)) 8 27 ((1031 : Nat) : Int)) 8 28 ((1032 : Nat) : Int)) 8 29 ((1033 : Nat) : Int)) 8 30 ((1034 : Nat) : Int)) 8 31 ((1035 : Nat) : Int)) 8 32 ((1036 : Nat) : Int)) 0 12 ((8 : Nat) : Int)) 9 0 ((1037 : Nat) : Int)) 9 1 ((1038 : Nat) : Int)) 9 2 ((1039 : Nat) : Int)) 9 3 ((1040 : Nat) : Int)) 9 4 ((1041 : Nat) : Int)) 9 5 ((1042 : Nat) : Int)) 9 6 ((1043 : Nat) : Int)) 9 7 ((1044 : Nat) : Int)) 9 8 ((1045 : Nat) : Int)) 9 9 ((1046 : Nat) : Int)) 9 10 ((1047 : Nat) : Int)) 9 11 ((1048 : Nat) : Int)) 9 12 ((1049 : Nat) : Int)) 9 13 ((1050 : Nat) : Int)) 9 14 ((1051 : Nat) : Int)) 9 15 ((1052 : Nat) : Int)) 9 16 ((1053 : Nat) : Int)) 9 17 ((1054 : Nat) : Int)) 9 18 ((1055 : Nat) : Int)) 9 19 ((1056 : Nat) : Int)) 9 20 ((1057 : Nat) : Int)) 9 21 ((1058 : Nat) : Int)) 9 22 ((1059 : Nat) : Int)) 0 13 ((9 : Nat) : Int)) 0 14 ((10 : Nat) : Int)) 0 15 ((11 : Nat) : Int)) 0 16 ((12 : Nat) : Int)) 0 17 ((13 : Nat) : Int)) 0 18 ((14 : Nat) : Int)) 0 19 ((15 : Nat) : Int)) 0 21 ((16 : Nat) : Int)) 0 22 ((17 : Nat) : Int)) 0 23 ((18 : Nat) : Int)) 0 24 ((19 : Nat) : Int)) 0 25 ((20 : Nat) : Int)) 0 26 ((21 : Nat) : Int)) 0 27 ((22 : Nat) : Int)) 0 28 ((23 : Nat) : Int)) 0 29 ((24 : Nat) : Int)) 0 30 ((25 : Nat) : Int)) 0 32 ((26 : Nat) : Int)) 0 33 ((27 : Nat) : Int)) 0 34 ((28 : Nat) : Int)) 0 35 ((29 : Nat) : Int)) 0 36 ((30 : Nat) : Int)) 0 37 ((31 : Nat) : Int)) 0 38 ((32 : Nat) : Int)) 0 39 ((33 : Nat) : Int)) 0 48 ((34 : Nat) : Int)) 0 49 ((35 : Nat) : Int)) 0 54 ((36 : Nat) : Int)) 0 55 (-2)) 0 56 (-2)) 0 57 ((37 : Nat) : Int)) 0 61 ((38 : Nat) : Int)) 0 62 ((39 : Nat) : Int)) 0 63 ((40 : Nat) : Int)) 0 67 ((41 : Nat) : Int)) 0 68 ((42 : Nat) : Int)) 0 69 ((43 : Nat) : Int)) 0 70 ((44 : Nat) : Int)) 0 71 ((45 : Nat) : Int)) 0 72 ((46 : Nat) : Int)) 0 73 ((47 : Nat) : Int)) 0 74 ((48 : Nat) : Int)) 0 75 ((49 : Nat) : Int)) 0 76 ((50 : Nat) : Int)) 0 77 ((51 : Nat) : Int)) 0 79 ((52 : Nat) : Int)) 0 92 ((53 : Nat) : Int)) 0 0 0) 0 59 1)) : NCal g LM.ly szM lo 54 jMd_init 12 1 54 [vA 0] w K := by
  refine NCal.ofV (by decide) rfl rfl (Nat.le_of_ble_eq_true rfl) ?_
  show NV g LM.ly szM lo 54 jMd_init 12 1 54 K 0 [(0, vA 0)] [] 1 w
  refine n_Md_s0  ?_
  refine n_Md_s1  ?_
  refine n_Md_s2  ?_
  refine n_Md_s3  ?_
  refine n_Md_s4  ?_
  refine n_Md_s5  ?_
  exact hK
