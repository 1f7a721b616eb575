/-! ===== the law's walk ===== -/
theorem ca_40_9 : cal 40 9 = some (40, 9, 2, 0, 0) := by decide +kernel
theorem ca_40_12 : cal 40 12 = some (40, 12, 2, 176, 0) := by decide +kernel
theorem ca_40_13 : cal 40 13 = some (40, 13, 0, 11, 4) := by decide +kernel
theorem ca_40_17 : cal 40 17 = some (40, 17, 0, 177, 4) := by decide +kernel
theorem ca_40_18 : cal 40 18 = some (40, 18, 0, 17, 3) := by decide +kernel
theorem ca_40_22 : cal 40 22 = some (40, 22, 0, 181, 3) := by decide +kernel
theorem ca_40_23 : cal 40 23 = some (40, 23, 0, 18, 2) := by decide +kernel
theorem ca_40_27 : cal 40 27 = some (40, 27, 0, 183, 2) := by decide +kernel
theorem ca_40_28 : cal 40 28 = some (40, 28, 0, 19, 1) := by decide +kernel
theorem ca_40_32 : cal 40 32 = some (40, 32, 0, 185, 1) := by decide +kernel
theorem ca_40_33 : cal 40 33 = some (40, 33, 0, 21, 2) := by decide +kernel
theorem ca_40_36 : cal 40 36 = some (40, 36, 0, 187, 2) := by decide +kernel
theorem ca_40_37 : cal 40 37 = some (40, 37, 0, 28, 3) := by decide +kernel
theorem ca_40_41 : cal 40 41 = some (40, 41, 0, 194, 3) := by decide +kernel
theorem ca_40_42 : cal 40 42 = some (40, 42, 0, 30, 2) := by decide +kernel
theorem ca_40_45 : cal 40 45 = some (40, 45, 0, 195, 2) := by decide +kernel
theorem ca_40_46 : cal 40 46 = some (40, 46, 0, 32, 1) := by decide +kernel
theorem ca_40_49 : cal 40 49 = some (40, 49, 0, 197, 1) := by decide +kernel
theorem ca_40_50 : cal 40 50 = some (40, 50, 0, 36, 2) := by decide +kernel
theorem ca_40_53 : cal 40 53 = some (40, 53, 0, 202, 2) := by decide +kernel
theorem ca_40_54 : cal 40 54 = some (40, 54, 0, 39, 5) := by decide +kernel
theorem ca_40_58 : cal 40 58 = some (40, 58, 0, 203, 5) := by decide +kernel
theorem ca_40_59 : cal 40 59 = some (40, 59, 0, 46, 2) := by decide +kernel
theorem ca_40_62 : cal 40 62 = some (40, 62, 0, 207, 2) := by decide +kernel
theorem ca_40_63 : cal 40 63 = some (40, 63, 0, 48, 2) := by decide +kernel
theorem ca_40_66 : cal 40 66 = some (40, 66, 0, 210, 2) := by decide +kernel
theorem ca_40_67 : cal 40 67 = some (40, 67, 0, 49, 2) := by decide +kernel
theorem ca_40_70 : cal 40 70 = some (40, 70, 0, 211, 2) := by decide +kernel
theorem ca_40_71 : cal 40 71 = some (40, 71, 0, 53, 1) := by decide +kernel
theorem ca_40_74 : cal 40 74 = some (40, 74, 0, 215, 1) := by decide +kernel
theorem ca_40_75 : cal 40 75 = some (40, 75, 0, 54, 2) := by decide +kernel
theorem ca_40_78 : cal 40 78 = some (40, 78, 0, 216, 2) := by decide +kernel
theorem ca_40_79 : cal 40 79 = some (40, 79, 0, 55, 2) := by decide +kernel
theorem ca_40_82 : cal 40 82 = some (40, 82, 0, 217, 2) := by decide +kernel
theorem ca_40_83 : cal 40 83 = some (40, 83, 0, 57, 2) := by decide +kernel
theorem ca_40_86 : cal 40 86 = some (40, 86, 0, 219, 2) := by decide +kernel
theorem ca_40_89 : cal 40 89 = some (40, 89, 0, 61, 2) := by decide +kernel
theorem ca_40_93 : cal 40 93 = some (40, 93, 0, 222, 2) := by decide +kernel
theorem ca_40_94 : cal 40 94 = some (40, 94, 0, 63, 1) := by decide +kernel
theorem ca_40_97 : cal 40 97 = some (40, 97, 0, 223, 1) := by decide +kernel
theorem ca_40_98 : cal 40 98 = some (40, 98, 0, 108, 3) := by decide +kernel
theorem ca_40_102 : cal 40 102 = some (40, 102, 0, 237, 3) := by decide +kernel
theorem ca_40_103 : cal 40 103 = some (40, 103, 0, 110, 2) := by decide +kernel
theorem ca_40_106 : cal 40 106 = some (40, 106, 0, 238, 2) := by decide +kernel
theorem ca_40_107 : cal 40 107 = some (40, 107, 0, 112, 3) := by decide +kernel
theorem ca_40_110 : cal 40 110 = some (40, 110, 0, 240, 3) := by decide +kernel
theorem ca_40_111 : cal 40 111 = some (40, 111, 0, 124, 3) := by decide +kernel
theorem ca_40_114 : cal 40 114 = some (40, 114, 0, 246, 3) := by decide +kernel
theorem ca_40_115 : cal 40 115 = some (40, 115, 0, 125, 3) := by decide +kernel
theorem ca_40_118 : cal 40 118 = some (40, 118, 0, 247, 3) := by decide +kernel
theorem ca_40_119 : cal 40 119 = some (40, 119, 0, 127, 3) := by decide +kernel
theorem ca_40_122 : cal 40 122 = some (40, 122, 0, 249, 3) := by decide +kernel
theorem ca_40_123 : cal 40 123 = some (40, 123, 0, 129, 2) := by decide +kernel
theorem ca_40_126 : cal 40 126 = some (40, 126, 0, 250, 2) := by decide +kernel
theorem ca_40_127 : cal 40 127 = some (40, 127, 0, 130, 1) := by decide +kernel
theorem ca_40_130 : cal 40 130 = some (40, 130, 0, 251, 1) := by decide +kernel
theorem ca_40_131 : cal 40 131 = some (40, 131, 0, 139, 1) := by decide +kernel
theorem ca_40_134 : cal 40 134 = some (40, 134, 0, 258, 1) := by decide +kernel
theorem ca_40_135 : cal 40 135 = some (40, 135, 0, 142, 1) := by decide +kernel
theorem ca_40_138 : cal 40 138 = some (40, 138, 0, 260, 1) := by decide +kernel
theorem ca_40_139 : cal 40 139 = some (40, 139, 0, 145, 4) := by decide +kernel
theorem ca_40_142 : cal 40 142 = some (40, 142, 0, 261, 4) := by decide +kernel
theorem ca_40_143 : cal 40 143 = some (40, 143, 0, 156, 5) := by decide +kernel
theorem ca_40_146 : cal 40 146 = some (40, 146, 0, 268, 5) := by decide +kernel
theorem ca_40_147 : cal 40 147 = some (40, 147, 0, 158, 4) := by decide +kernel
theorem ca_40_150 : cal 40 150 = some (40, 150, 0, 269, 4) := by decide +kernel
theorem ca_40_151 : cal 40 151 = some (40, 151, 0, 160, 3) := by decide +kernel
theorem ca_40_154 : cal 40 154 = some (40, 154, 0, 270, 3) := by decide +kernel
theorem ca_40_155 : cal 40 155 = some (40, 155, 0, 162, 3) := by decide +kernel
theorem ca_40_158 : cal 40 158 = some (40, 158, 0, 271, 3) := by decide +kernel
theorem ca_40_159 : cal 40 159 = some (40, 159, 0, 164, 5) := by decide +kernel
theorem ca_40_162 : cal 40 162 = some (40, 162, 0, 272, 5) := by decide +kernel
theorem ca_40_163 : cal 40 163 = some (40, 163, 0, 166, 0) := by decide +kernel
theorem ca_40_167 : cal 40 167 = some (40, 167, 0, 273, 0) := by decide +kernel
theorem ca_40_168 : cal 40 168 = some (40, 168, 0, 171, 0) := by decide +kernel
theorem ca_40_171 : cal 40 171 = some (40, 171, 0, 274, 0) := by decide +kernel
theorem ca_40_172 : cal 40 172 = some (40, 172, 0, 172, 1) := by decide +kernel
theorem ca_40_175 : cal 40 175 = some (40, 175, 0, 275, 1) := by decide +kernel
theorem f_276_0 : decode (mB 276) 0 = .ok (.new 7, 3) := by decide +kernel
theorem f_276_3 : decode (mB 276) 3 = .ok (.dup, 1) := by decide +kernel
theorem f_276_4 : decode (mB 276) 4 = .ok (.invokespecial 9, 3) := by decide +kernel
theorem f_276_7 : decode (mB 276) 7 = .ok (.astore_n 1, 1) := by decide +kernel
theorem f_276_8 : decode (mB 276) 8 = .ok (.new 10, 3) := by decide +kernel
theorem f_276_11 : decode (mB 276) 11 = .ok (.dup, 1) := by decide +kernel
theorem f_276_12 : decode (mB 276) 12 = .ok (.invokespecial 12, 3) := by decide +kernel
theorem f_276_15 : decode (mB 276) 15 = .ok (.astore_n 2, 1) := by decide +kernel
theorem f_276_16 : decode (mB 276) 16 = .ok (.iconst 0, 1) := by decide +kernel
theorem f_276_17 : decode (mB 276) 17 = .ok (.istore_n 3, 1) := by decide +kernel
theorem f_276_18 : decode (mB 276) 18 = .ok (.iload_n 3, 1) := by decide +kernel
theorem f_276_19 : decode (mB 276) 19 = .ok (.aload_n 0, 1) := by decide +kernel
theorem f_276_20 : decode (mB 276) 20 = .ok (.arraylength, 1) := by decide +kernel
theorem f_276_21 : decode (mB 276) 21 = .ok (.bipush 6, 2) := by decide +kernel
theorem f_276_23 : decode (mB 276) 23 = .ok (.isub, 1) := by decide +kernel
theorem f_276_24 : decode (mB 276) 24 = .ok (.if_icmp .gt 1634, 3) := by decide +kernel
theorem f_276_27 : decode (mB 276) 27 = .ok (.aload_n 0, 1) := by decide +kernel
theorem f_276_28 : decode (mB 276) 28 = .ok (.iload_n 3, 1) := by decide +kernel
theorem f_276_29 : decode (mB 276) 29 = .ok (.iaload, 1) := by decide +kernel
theorem f_276_30 : decode (mB 276) 30 = .ok (.bipush 63, 2) := by decide +kernel
theorem f_276_32 : decode (mB 276) 32 = .ok (.iand, 1) := by decide +kernel
theorem f_276_33 : decode (mB 276) 33 = .ok (.tableswitch 1619 0 37 #[167, 220, 295, 328, 351, 384, 443, 476, 499, 532, 595, 628, 661, 694, 717, 750, 783, 816, 879, 902, 945, 978, 1021, 1064, 1107, 1150, 1183, 1206, 1229, 1252, 1305, 1368, 1421, 1464, 1507, 1570, 1583, 1596], 167) := by decide +kernel
theorem f_276_200 : decode (mB 276) 200 = .ok (.aload_n 1, 1) := by decide +kernel
theorem f_276_201 : decode (mB 276) 201 = .ok (.aload_n 0, 1) := by decide +kernel
theorem f_276_202 : decode (mB 276) 202 = .ok (.iload_n 3, 1) := by decide +kernel
theorem f_276_203 : decode (mB 276) 203 = .ok (.iconst 1, 1) := by decide +kernel
theorem f_276_204 : decode (mB 276) 204 = .ok (.iadd, 1) := by decide +kernel
theorem f_276_205 : decode (mB 276) 205 = .ok (.iaload, 1) := by decide +kernel
theorem f_276_206 : decode (mB 276) 206 = .ok (.aload_n 0, 1) := by decide +kernel
theorem f_276_207 : decode (mB 276) 207 = .ok (.iload_n 3, 1) := by decide +kernel
theorem f_276_208 : decode (mB 276) 208 = .ok (.iconst 2, 1) := by decide +kernel
theorem f_276_209 : decode (mB 276) 209 = .ok (.iadd, 1) := by decide +kernel
theorem f_276_210 : decode (mB 276) 210 = .ok (.iaload, 1) := by decide +kernel
theorem f_276_211 : decode (mB 276) 211 = .ok (.aload_n 0, 1) := by decide +kernel
theorem f_276_212 : decode (mB 276) 212 = .ok (.iload_n 3, 1) := by decide +kernel
theorem f_276_213 : decode (mB 276) 213 = .ok (.iconst 3, 1) := by decide +kernel
theorem f_276_214 : decode (mB 276) 214 = .ok (.iadd, 1) := by decide +kernel
theorem f_276_215 : decode (mB 276) 215 = .ok (.iaload, 1) := by decide +kernel
theorem f_276_216 : decode (mB 276) 216 = .ok (.aload_n 0, 1) := by decide +kernel
theorem f_276_217 : decode (mB 276) 217 = .ok (.iload_n 3, 1) := by decide +kernel
theorem f_276_218 : decode (mB 276) 218 = .ok (.iconst 4, 1) := by decide +kernel
theorem f_276_219 : decode (mB 276) 219 = .ok (.iadd, 1) := by decide +kernel
theorem f_276_220 : decode (mB 276) 220 = .ok (.iaload, 1) := by decide +kernel
theorem f_276_221 : decode (mB 276) 221 = .ok (.invokevirtual 13, 3) := by decide +kernel
theorem f_276_224 : decode (mB 276) 224 = .ok (.aload_n 2, 1) := by decide +kernel
theorem f_276_225 : decode (mB 276) 225 = .ok (.aload_n 0, 1) := by decide +kernel
theorem f_276_226 : decode (mB 276) 226 = .ok (.iload_n 3, 1) := by decide +kernel
theorem f_276_227 : decode (mB 276) 227 = .ok (.iconst 1, 1) := by decide +kernel
theorem f_276_228 : decode (mB 276) 228 = .ok (.iadd, 1) := by decide +kernel
theorem f_276_229 : decode (mB 276) 229 = .ok (.iaload, 1) := by decide +kernel
theorem f_276_230 : decode (mB 276) 230 = .ok (.aload_n 0, 1) := by decide +kernel
theorem f_276_231 : decode (mB 276) 231 = .ok (.iload_n 3, 1) := by decide +kernel
theorem f_276_232 : decode (mB 276) 232 = .ok (.iconst 2, 1) := by decide +kernel
theorem f_276_233 : decode (mB 276) 233 = .ok (.iadd, 1) := by decide +kernel
theorem f_276_234 : decode (mB 276) 234 = .ok (.iaload, 1) := by decide +kernel
theorem f_276_235 : decode (mB 276) 235 = .ok (.aload_n 0, 1) := by decide +kernel
theorem f_276_236 : decode (mB 276) 236 = .ok (.iload_n 3, 1) := by decide +kernel
theorem f_276_237 : decode (mB 276) 237 = .ok (.iconst 3, 1) := by decide +kernel
theorem f_276_238 : decode (mB 276) 238 = .ok (.iadd, 1) := by decide +kernel
theorem f_276_239 : decode (mB 276) 239 = .ok (.iaload, 1) := by decide +kernel
theorem f_276_240 : decode (mB 276) 240 = .ok (.aload_n 0, 1) := by decide +kernel
theorem f_276_241 : decode (mB 276) 241 = .ok (.iload_n 3, 1) := by decide +kernel
theorem f_276_242 : decode (mB 276) 242 = .ok (.iconst 4, 1) := by decide +kernel
theorem f_276_243 : decode (mB 276) 243 = .ok (.iadd, 1) := by decide +kernel
theorem f_276_244 : decode (mB 276) 244 = .ok (.iaload, 1) := by decide +kernel
theorem f_276_245 : decode (mB 276) 245 = .ok (.invokevirtual 17, 3) := by decide +kernel
theorem f_276_248 : decode (mB 276) 248 = .ok (.if_icmp .eq 1404, 3) := by decide +kernel
theorem f_276_253 : decode (mB 276) 253 = .ok (.aload_n 1, 1) := by decide +kernel
theorem f_276_254 : decode (mB 276) 254 = .ok (.aload_n 0, 1) := by decide +kernel
theorem f_276_255 : decode (mB 276) 255 = .ok (.iload_n 3, 1) := by decide +kernel
theorem f_276_256 : decode (mB 276) 256 = .ok (.iconst 1, 1) := by decide +kernel
theorem f_276_257 : decode (mB 276) 257 = .ok (.iadd, 1) := by decide +kernel
theorem f_276_258 : decode (mB 276) 258 = .ok (.iaload, 1) := by decide +kernel
theorem f_276_259 : decode (mB 276) 259 = .ok (.aload_n 0, 1) := by decide +kernel
theorem f_276_260 : decode (mB 276) 260 = .ok (.iload_n 3, 1) := by decide +kernel
theorem f_276_261 : decode (mB 276) 261 = .ok (.iconst 2, 1) := by decide +kernel
theorem f_276_262 : decode (mB 276) 262 = .ok (.iadd, 1) := by decide +kernel
theorem f_276_263 : decode (mB 276) 263 = .ok (.iaload, 1) := by decide +kernel
theorem f_276_264 : decode (mB 276) 264 = .ok (.ifCond .eq 7, 3) := by decide +kernel
theorem f_276_267 : decode (mB 276) 267 = .ok (.iconst 1, 1) := by decide +kernel
theorem f_276_268 : decode (mB 276) 268 = .ok (.goto 4, 3) := by decide +kernel
theorem f_276_271 : decode (mB 276) 271 = .ok (.iconst 0, 1) := by decide +kernel
theorem f_276_272 : decode (mB 276) 272 = .ok (.aload_n 0, 1) := by decide +kernel
theorem f_276_273 : decode (mB 276) 273 = .ok (.iload_n 3, 1) := by decide +kernel
theorem f_276_274 : decode (mB 276) 274 = .ok (.iconst 3, 1) := by decide +kernel
theorem f_276_275 : decode (mB 276) 275 = .ok (.iadd, 1) := by decide +kernel
theorem f_276_276 : decode (mB 276) 276 = .ok (.iaload, 1) := by decide +kernel
theorem f_276_277 : decode (mB 276) 277 = .ok (.ifCond .eq 7, 3) := by decide +kernel
theorem f_276_280 : decode (mB 276) 280 = .ok (.iconst 1, 1) := by decide +kernel
theorem f_276_281 : decode (mB 276) 281 = .ok (.goto 4, 3) := by decide +kernel
theorem f_276_284 : decode (mB 276) 284 = .ok (.iconst 0, 1) := by decide +kernel
theorem f_276_285 : decode (mB 276) 285 = .ok (.invokevirtual 18, 3) := by decide +kernel
theorem f_276_288 : decode (mB 276) 288 = .ok (.aload_n 2, 1) := by decide +kernel
theorem f_276_289 : decode (mB 276) 289 = .ok (.aload_n 0, 1) := by decide +kernel
theorem f_276_290 : decode (mB 276) 290 = .ok (.iload_n 3, 1) := by decide +kernel
theorem f_276_291 : decode (mB 276) 291 = .ok (.iconst 1, 1) := by decide +kernel
theorem f_276_292 : decode (mB 276) 292 = .ok (.iadd, 1) := by decide +kernel
theorem f_276_293 : decode (mB 276) 293 = .ok (.iaload, 1) := by decide +kernel
theorem f_276_294 : decode (mB 276) 294 = .ok (.aload_n 0, 1) := by decide +kernel
theorem f_276_295 : decode (mB 276) 295 = .ok (.iload_n 3, 1) := by decide +kernel
theorem f_276_296 : decode (mB 276) 296 = .ok (.iconst 2, 1) := by decide +kernel
theorem f_276_297 : decode (mB 276) 297 = .ok (.iadd, 1) := by decide +kernel
theorem f_276_298 : decode (mB 276) 298 = .ok (.iaload, 1) := by decide +kernel
theorem f_276_299 : decode (mB 276) 299 = .ok (.ifCond .eq 7, 3) := by decide +kernel
theorem f_276_302 : decode (mB 276) 302 = .ok (.iconst 1, 1) := by decide +kernel
theorem f_276_303 : decode (mB 276) 303 = .ok (.goto 4, 3) := by decide +kernel
theorem f_276_306 : decode (mB 276) 306 = .ok (.iconst 0, 1) := by decide +kernel
theorem f_276_307 : decode (mB 276) 307 = .ok (.aload_n 0, 1) := by decide +kernel
theorem f_276_308 : decode (mB 276) 308 = .ok (.iload_n 3, 1) := by decide +kernel
theorem f_276_309 : decode (mB 276) 309 = .ok (.iconst 3, 1) := by decide +kernel
theorem f_276_310 : decode (mB 276) 310 = .ok (.iadd, 1) := by decide +kernel
theorem f_276_311 : decode (mB 276) 311 = .ok (.iaload, 1) := by decide +kernel
theorem f_276_312 : decode (mB 276) 312 = .ok (.ifCond .eq 7, 3) := by decide +kernel
theorem f_276_315 : decode (mB 276) 315 = .ok (.iconst 1, 1) := by decide +kernel
theorem f_276_316 : decode (mB 276) 316 = .ok (.goto 4, 3) := by decide +kernel
theorem f_276_319 : decode (mB 276) 319 = .ok (.iconst 0, 1) := by decide +kernel
theorem f_276_320 : decode (mB 276) 320 = .ok (.invokevirtual 22, 3) := by decide +kernel
theorem f_276_323 : decode (mB 276) 323 = .ok (.if_icmp .eq 1329, 3) := by decide +kernel
theorem f_276_328 : decode (mB 276) 328 = .ok (.aload_n 1, 1) := by decide +kernel
theorem f_276_329 : decode (mB 276) 329 = .ok (.aload_n 0, 1) := by decide +kernel
theorem f_276_330 : decode (mB 276) 330 = .ok (.iload_n 3, 1) := by decide +kernel
theorem f_276_331 : decode (mB 276) 331 = .ok (.iconst 1, 1) := by decide +kernel
theorem f_276_332 : decode (mB 276) 332 = .ok (.iadd, 1) := by decide +kernel
theorem f_276_333 : decode (mB 276) 333 = .ok (.iaload, 1) := by decide +kernel
theorem f_276_334 : decode (mB 276) 334 = .ok (.aload_n 0, 1) := by decide +kernel
theorem f_276_335 : decode (mB 276) 335 = .ok (.iload_n 3, 1) := by decide +kernel
theorem f_276_336 : decode (mB 276) 336 = .ok (.iconst 2, 1) := by decide +kernel
theorem f_276_337 : decode (mB 276) 337 = .ok (.iadd, 1) := by decide +kernel
theorem f_276_338 : decode (mB 276) 338 = .ok (.iaload, 1) := by decide +kernel
theorem f_276_339 : decode (mB 276) 339 = .ok (.invokevirtual 23, 3) := by decide +kernel
theorem f_276_342 : decode (mB 276) 342 = .ok (.aload_n 2, 1) := by decide +kernel
theorem f_276_343 : decode (mB 276) 343 = .ok (.aload_n 0, 1) := by decide +kernel
theorem f_276_344 : decode (mB 276) 344 = .ok (.iload_n 3, 1) := by decide +kernel
theorem f_276_345 : decode (mB 276) 345 = .ok (.iconst 1, 1) := by decide +kernel
theorem f_276_346 : decode (mB 276) 346 = .ok (.iadd, 1) := by decide +kernel
theorem f_276_347 : decode (mB 276) 347 = .ok (.iaload, 1) := by decide +kernel
theorem f_276_348 : decode (mB 276) 348 = .ok (.aload_n 0, 1) := by decide +kernel
theorem f_276_349 : decode (mB 276) 349 = .ok (.iload_n 3, 1) := by decide +kernel
theorem f_276_350 : decode (mB 276) 350 = .ok (.iconst 2, 1) := by decide +kernel
theorem f_276_351 : decode (mB 276) 351 = .ok (.iadd, 1) := by decide +kernel
theorem f_276_352 : decode (mB 276) 352 = .ok (.iaload, 1) := by decide +kernel
theorem f_276_353 : decode (mB 276) 353 = .ok (.invokevirtual 27, 3) := by decide +kernel
theorem f_276_356 : decode (mB 276) 356 = .ok (.if_icmp .eq 1296, 3) := by decide +kernel
theorem f_276_361 : decode (mB 276) 361 = .ok (.aload_n 1, 1) := by decide +kernel
theorem f_276_362 : decode (mB 276) 362 = .ok (.aload_n 0, 1) := by decide +kernel
theorem f_276_363 : decode (mB 276) 363 = .ok (.iload_n 3, 1) := by decide +kernel
theorem f_276_364 : decode (mB 276) 364 = .ok (.iconst 1, 1) := by decide +kernel
theorem f_276_365 : decode (mB 276) 365 = .ok (.iadd, 1) := by decide +kernel
theorem f_276_366 : decode (mB 276) 366 = .ok (.iaload, 1) := by decide +kernel
theorem f_276_367 : decode (mB 276) 367 = .ok (.invokevirtual 28, 3) := by decide +kernel
theorem f_276_370 : decode (mB 276) 370 = .ok (.aload_n 2, 1) := by decide +kernel
theorem f_276_371 : decode (mB 276) 371 = .ok (.aload_n 0, 1) := by decide +kernel
theorem f_276_372 : decode (mB 276) 372 = .ok (.iload_n 3, 1) := by decide +kernel
theorem f_276_373 : decode (mB 276) 373 = .ok (.iconst 1, 1) := by decide +kernel
theorem f_276_374 : decode (mB 276) 374 = .ok (.iadd, 1) := by decide +kernel
theorem f_276_375 : decode (mB 276) 375 = .ok (.iaload, 1) := by decide +kernel
theorem f_276_376 : decode (mB 276) 376 = .ok (.invokevirtual 32, 3) := by decide +kernel
theorem f_276_379 : decode (mB 276) 379 = .ok (.if_icmp .eq 1273, 3) := by decide +kernel
theorem f_276_384 : decode (mB 276) 384 = .ok (.aload_n 1, 1) := by decide +kernel
theorem f_276_385 : decode (mB 276) 385 = .ok (.aload_n 0, 1) := by decide +kernel
theorem f_276_386 : decode (mB 276) 386 = .ok (.iload_n 3, 1) := by decide +kernel
theorem f_276_387 : decode (mB 276) 387 = .ok (.iconst 1, 1) := by decide +kernel
theorem f_276_388 : decode (mB 276) 388 = .ok (.iadd, 1) := by decide +kernel
theorem f_276_389 : decode (mB 276) 389 = .ok (.iaload, 1) := by decide +kernel
theorem f_276_390 : decode (mB 276) 390 = .ok (.aload_n 0, 1) := by decide +kernel
theorem f_276_391 : decode (mB 276) 391 = .ok (.iload_n 3, 1) := by decide +kernel
theorem f_276_392 : decode (mB 276) 392 = .ok (.iconst 2, 1) := by decide +kernel
theorem f_276_393 : decode (mB 276) 393 = .ok (.iadd, 1) := by decide +kernel
theorem f_276_394 : decode (mB 276) 394 = .ok (.iaload, 1) := by decide +kernel
theorem f_276_395 : decode (mB 276) 395 = .ok (.invokevirtual 33, 3) := by decide +kernel
theorem f_276_398 : decode (mB 276) 398 = .ok (.aload_n 2, 1) := by decide +kernel
theorem f_276_399 : decode (mB 276) 399 = .ok (.aload_n 0, 1) := by decide +kernel
theorem f_276_400 : decode (mB 276) 400 = .ok (.iload_n 3, 1) := by decide +kernel
theorem f_276_401 : decode (mB 276) 401 = .ok (.iconst 1, 1) := by decide +kernel
theorem f_276_402 : decode (mB 276) 402 = .ok (.iadd, 1) := by decide +kernel
theorem f_276_403 : decode (mB 276) 403 = .ok (.iaload, 1) := by decide +kernel
theorem f_276_404 : decode (mB 276) 404 = .ok (.aload_n 0, 1) := by decide +kernel
theorem f_276_405 : decode (mB 276) 405 = .ok (.iload_n 3, 1) := by decide +kernel
theorem f_276_406 : decode (mB 276) 406 = .ok (.iconst 2, 1) := by decide +kernel
theorem f_276_407 : decode (mB 276) 407 = .ok (.iadd, 1) := by decide +kernel
theorem f_276_408 : decode (mB 276) 408 = .ok (.iaload, 1) := by decide +kernel
theorem f_276_409 : decode (mB 276) 409 = .ok (.invokevirtual 36, 3) := by decide +kernel
theorem f_276_412 : decode (mB 276) 412 = .ok (.if_icmp .eq 1240, 3) := by decide +kernel
theorem f_276_417 : decode (mB 276) 417 = .ok (.aload_n 1, 1) := by decide +kernel
theorem f_276_418 : decode (mB 276) 418 = .ok (.aload_n 0, 1) := by decide +kernel
theorem f_276_419 : decode (mB 276) 419 = .ok (.iload_n 3, 1) := by decide +kernel
theorem f_276_420 : decode (mB 276) 420 = .ok (.iconst 1, 1) := by decide +kernel
theorem f_276_421 : decode (mB 276) 421 = .ok (.iadd, 1) := by decide +kernel
theorem f_276_422 : decode (mB 276) 422 = .ok (.iaload, 1) := by decide +kernel
theorem f_276_423 : decode (mB 276) 423 = .ok (.aload_n 0, 1) := by decide +kernel
theorem f_276_424 : decode (mB 276) 424 = .ok (.iload_n 3, 1) := by decide +kernel
theorem f_276_425 : decode (mB 276) 425 = .ok (.iconst 2, 1) := by decide +kernel
theorem f_276_426 : decode (mB 276) 426 = .ok (.iadd, 1) := by decide +kernel
theorem f_276_427 : decode (mB 276) 427 = .ok (.iaload, 1) := by decide +kernel
theorem f_276_428 : decode (mB 276) 428 = .ok (.aload_n 0, 1) := by decide +kernel
theorem f_276_429 : decode (mB 276) 429 = .ok (.iload_n 3, 1) := by decide +kernel
theorem f_276_430 : decode (mB 276) 430 = .ok (.iconst 3, 1) := by decide +kernel
theorem f_276_431 : decode (mB 276) 431 = .ok (.iadd, 1) := by decide +kernel
theorem f_276_432 : decode (mB 276) 432 = .ok (.iaload, 1) := by decide +kernel
theorem f_276_433 : decode (mB 276) 433 = .ok (.ifCond .eq 7, 3) := by decide +kernel
theorem f_276_436 : decode (mB 276) 436 = .ok (.iconst 1, 1) := by decide +kernel
theorem f_276_437 : decode (mB 276) 437 = .ok (.goto 4, 3) := by decide +kernel
theorem f_276_440 : decode (mB 276) 440 = .ok (.iconst 0, 1) := by decide +kernel
theorem f_276_441 : decode (mB 276) 441 = .ok (.invokevirtual 37, 3) := by decide +kernel
theorem f_276_444 : decode (mB 276) 444 = .ok (.aload_n 2, 1) := by decide +kernel
theorem f_276_445 : decode (mB 276) 445 = .ok (.aload_n 0, 1) := by decide +kernel
theorem f_276_446 : decode (mB 276) 446 = .ok (.iload_n 3, 1) := by decide +kernel
theorem f_276_447 : decode (mB 276) 447 = .ok (.iconst 1, 1) := by decide +kernel
theorem f_276_448 : decode (mB 276) 448 = .ok (.iadd, 1) := by decide +kernel
theorem f_276_449 : decode (mB 276) 449 = .ok (.iaload, 1) := by decide +kernel
theorem f_276_450 : decode (mB 276) 450 = .ok (.aload_n 0, 1) := by decide +kernel
theorem f_276_451 : decode (mB 276) 451 = .ok (.iload_n 3, 1) := by decide +kernel
theorem f_276_452 : decode (mB 276) 452 = .ok (.iconst 2, 1) := by decide +kernel
theorem f_276_453 : decode (mB 276) 453 = .ok (.iadd, 1) := by decide +kernel
theorem f_276_454 : decode (mB 276) 454 = .ok (.iaload, 1) := by decide +kernel
theorem f_276_455 : decode (mB 276) 455 = .ok (.aload_n 0, 1) := by decide +kernel
theorem f_276_456 : decode (mB 276) 456 = .ok (.iload_n 3, 1) := by decide +kernel
theorem f_276_457 : decode (mB 276) 457 = .ok (.iconst 3, 1) := by decide +kernel
theorem f_276_458 : decode (mB 276) 458 = .ok (.iadd, 1) := by decide +kernel
theorem f_276_459 : decode (mB 276) 459 = .ok (.iaload, 1) := by decide +kernel
theorem f_276_460 : decode (mB 276) 460 = .ok (.ifCond .eq 7, 3) := by decide +kernel
theorem f_276_463 : decode (mB 276) 463 = .ok (.iconst 1, 1) := by decide +kernel
theorem f_276_464 : decode (mB 276) 464 = .ok (.goto 4, 3) := by decide +kernel
theorem f_276_467 : decode (mB 276) 467 = .ok (.iconst 0, 1) := by decide +kernel
theorem f_276_468 : decode (mB 276) 468 = .ok (.invokevirtual 41, 3) := by decide +kernel
theorem f_276_471 : decode (mB 276) 471 = .ok (.if_icmp .eq 1181, 3) := by decide +kernel
theorem f_276_476 : decode (mB 276) 476 = .ok (.aload_n 1, 1) := by decide +kernel
theorem f_276_477 : decode (mB 276) 477 = .ok (.aload_n 0, 1) := by decide +kernel
theorem f_276_478 : decode (mB 276) 478 = .ok (.iload_n 3, 1) := by decide +kernel
theorem f_276_479 : decode (mB 276) 479 = .ok (.iconst 1, 1) := by decide +kernel
theorem f_276_480 : decode (mB 276) 480 = .ok (.iadd, 1) := by decide +kernel
theorem f_276_481 : decode (mB 276) 481 = .ok (.iaload, 1) := by decide +kernel
theorem f_276_482 : decode (mB 276) 482 = .ok (.aload_n 0, 1) := by decide +kernel
theorem f_276_483 : decode (mB 276) 483 = .ok (.iload_n 3, 1) := by decide +kernel
theorem f_276_484 : decode (mB 276) 484 = .ok (.iconst 2, 1) := by decide +kernel
theorem f_276_485 : decode (mB 276) 485 = .ok (.iadd, 1) := by decide +kernel
theorem f_276_486 : decode (mB 276) 486 = .ok (.iaload, 1) := by decide +kernel
theorem f_276_487 : decode (mB 276) 487 = .ok (.invokevirtual 42, 3) := by decide +kernel
theorem f_276_490 : decode (mB 276) 490 = .ok (.aload_n 2, 1) := by decide +kernel
theorem f_276_491 : decode (mB 276) 491 = .ok (.aload_n 0, 1) := by decide +kernel
theorem f_276_492 : decode (mB 276) 492 = .ok (.iload_n 3, 1) := by decide +kernel
theorem f_276_493 : decode (mB 276) 493 = .ok (.iconst 1, 1) := by decide +kernel
theorem f_276_494 : decode (mB 276) 494 = .ok (.iadd, 1) := by decide +kernel
theorem f_276_495 : decode (mB 276) 495 = .ok (.iaload, 1) := by decide +kernel
theorem f_276_496 : decode (mB 276) 496 = .ok (.aload_n 0, 1) := by decide +kernel
theorem f_276_497 : decode (mB 276) 497 = .ok (.iload_n 3, 1) := by decide +kernel
theorem f_276_498 : decode (mB 276) 498 = .ok (.iconst 2, 1) := by decide +kernel
theorem f_276_499 : decode (mB 276) 499 = .ok (.iadd, 1) := by decide +kernel
theorem f_276_500 : decode (mB 276) 500 = .ok (.iaload, 1) := by decide +kernel
theorem f_276_501 : decode (mB 276) 501 = .ok (.invokevirtual 45, 3) := by decide +kernel
theorem f_276_504 : decode (mB 276) 504 = .ok (.if_icmp .eq 1148, 3) := by decide +kernel
theorem f_276_509 : decode (mB 276) 509 = .ok (.aload_n 1, 1) := by decide +kernel
theorem f_276_510 : decode (mB 276) 510 = .ok (.aload_n 0, 1) := by decide +kernel
theorem f_276_511 : decode (mB 276) 511 = .ok (.iload_n 3, 1) := by decide +kernel
theorem f_276_512 : decode (mB 276) 512 = .ok (.iconst 1, 1) := by decide +kernel
theorem f_276_513 : decode (mB 276) 513 = .ok (.iadd, 1) := by decide +kernel
theorem f_276_514 : decode (mB 276) 514 = .ok (.iaload, 1) := by decide +kernel
theorem f_276_515 : decode (mB 276) 515 = .ok (.invokevirtual 46, 3) := by decide +kernel
theorem f_276_518 : decode (mB 276) 518 = .ok (.aload_n 2, 1) := by decide +kernel
theorem f_276_519 : decode (mB 276) 519 = .ok (.aload_n 0, 1) := by decide +kernel
theorem f_276_520 : decode (mB 276) 520 = .ok (.iload_n 3, 1) := by decide +kernel
theorem f_276_521 : decode (mB 276) 521 = .ok (.iconst 1, 1) := by decide +kernel
theorem f_276_522 : decode (mB 276) 522 = .ok (.iadd, 1) := by decide +kernel
theorem f_276_523 : decode (mB 276) 523 = .ok (.iaload, 1) := by decide +kernel
theorem f_276_524 : decode (mB 276) 524 = .ok (.invokevirtual 49, 3) := by decide +kernel
theorem f_276_527 : decode (mB 276) 527 = .ok (.if_icmp .eq 1125, 3) := by decide +kernel
theorem f_276_532 : decode (mB 276) 532 = .ok (.aload_n 1, 1) := by decide +kernel
theorem f_276_533 : decode (mB 276) 533 = .ok (.aload_n 0, 1) := by decide +kernel
theorem f_276_534 : decode (mB 276) 534 = .ok (.iload_n 3, 1) := by decide +kernel
theorem f_276_535 : decode (mB 276) 535 = .ok (.iconst 1, 1) := by decide +kernel
theorem f_276_536 : decode (mB 276) 536 = .ok (.iadd, 1) := by decide +kernel
theorem f_276_537 : decode (mB 276) 537 = .ok (.iaload, 1) := by decide +kernel
theorem f_276_538 : decode (mB 276) 538 = .ok (.aload_n 0, 1) := by decide +kernel
theorem f_276_539 : decode (mB 276) 539 = .ok (.iload_n 3, 1) := by decide +kernel
theorem f_276_540 : decode (mB 276) 540 = .ok (.iconst 2, 1) := by decide +kernel
theorem f_276_541 : decode (mB 276) 541 = .ok (.iadd, 1) := by decide +kernel
theorem f_276_542 : decode (mB 276) 542 = .ok (.iaload, 1) := by decide +kernel
theorem f_276_543 : decode (mB 276) 543 = .ok (.invokevirtual 50, 3) := by decide +kernel
theorem f_276_546 : decode (mB 276) 546 = .ok (.aload_n 2, 1) := by decide +kernel
theorem f_276_547 : decode (mB 276) 547 = .ok (.aload_n 0, 1) := by decide +kernel
theorem f_276_548 : decode (mB 276) 548 = .ok (.iload_n 3, 1) := by decide +kernel
theorem f_276_549 : decode (mB 276) 549 = .ok (.iconst 1, 1) := by decide +kernel
theorem f_276_550 : decode (mB 276) 550 = .ok (.iadd, 1) := by decide +kernel
theorem f_276_551 : decode (mB 276) 551 = .ok (.iaload, 1) := by decide +kernel
theorem f_276_552 : decode (mB 276) 552 = .ok (.aload_n 0, 1) := by decide +kernel
theorem f_276_553 : decode (mB 276) 553 = .ok (.iload_n 3, 1) := by decide +kernel
theorem f_276_554 : decode (mB 276) 554 = .ok (.iconst 2, 1) := by decide +kernel
theorem f_276_555 : decode (mB 276) 555 = .ok (.iadd, 1) := by decide +kernel
theorem f_276_556 : decode (mB 276) 556 = .ok (.iaload, 1) := by decide +kernel
theorem f_276_557 : decode (mB 276) 557 = .ok (.invokevirtual 53, 3) := by decide +kernel
theorem f_276_560 : decode (mB 276) 560 = .ok (.if_icmp .eq 1092, 3) := by decide +kernel
theorem f_276_565 : decode (mB 276) 565 = .ok (.aload_n 1, 1) := by decide +kernel
theorem f_276_566 : decode (mB 276) 566 = .ok (.aload_n 0, 1) := by decide +kernel
theorem f_276_567 : decode (mB 276) 567 = .ok (.iload_n 3, 1) := by decide +kernel
theorem f_276_568 : decode (mB 276) 568 = .ok (.iconst 1, 1) := by decide +kernel
theorem f_276_569 : decode (mB 276) 569 = .ok (.iadd, 1) := by decide +kernel
theorem f_276_570 : decode (mB 276) 570 = .ok (.iaload, 1) := by decide +kernel
theorem f_276_571 : decode (mB 276) 571 = .ok (.aload_n 0, 1) := by decide +kernel
theorem f_276_572 : decode (mB 276) 572 = .ok (.iload_n 3, 1) := by decide +kernel
theorem f_276_573 : decode (mB 276) 573 = .ok (.iconst 2, 1) := by decide +kernel
theorem f_276_574 : decode (mB 276) 574 = .ok (.iadd, 1) := by decide +kernel
theorem f_276_575 : decode (mB 276) 575 = .ok (.iaload, 1) := by decide +kernel
theorem f_276_576 : decode (mB 276) 576 = .ok (.aload_n 0, 1) := by decide +kernel
theorem f_276_577 : decode (mB 276) 577 = .ok (.iload_n 3, 1) := by decide +kernel
theorem f_276_578 : decode (mB 276) 578 = .ok (.iconst 3, 1) := by decide +kernel
theorem f_276_579 : decode (mB 276) 579 = .ok (.iadd, 1) := by decide +kernel
theorem f_276_580 : decode (mB 276) 580 = .ok (.iaload, 1) := by decide +kernel
theorem f_276_581 : decode (mB 276) 581 = .ok (.aload_n 0, 1) := by decide +kernel
theorem f_276_582 : decode (mB 276) 582 = .ok (.iload_n 3, 1) := by decide +kernel
theorem f_276_583 : decode (mB 276) 583 = .ok (.iconst 4, 1) := by decide +kernel
theorem f_276_584 : decode (mB 276) 584 = .ok (.iadd, 1) := by decide +kernel
theorem f_276_585 : decode (mB 276) 585 = .ok (.iaload, 1) := by decide +kernel
theorem f_276_586 : decode (mB 276) 586 = .ok (.aload_n 0, 1) := by decide +kernel
theorem f_276_587 : decode (mB 276) 587 = .ok (.iload_n 3, 1) := by decide +kernel
theorem f_276_588 : decode (mB 276) 588 = .ok (.iconst 5, 1) := by decide +kernel
theorem f_276_589 : decode (mB 276) 589 = .ok (.iadd, 1) := by decide +kernel
theorem f_276_590 : decode (mB 276) 590 = .ok (.iaload, 1) := by decide +kernel
theorem f_276_591 : decode (mB 276) 591 = .ok (.invokevirtual 54, 3) := by decide +kernel
theorem f_276_594 : decode (mB 276) 594 = .ok (.aload_n 2, 1) := by decide +kernel
theorem f_276_595 : decode (mB 276) 595 = .ok (.aload_n 0, 1) := by decide +kernel
theorem f_276_596 : decode (mB 276) 596 = .ok (.iload_n 3, 1) := by decide +kernel
theorem f_276_597 : decode (mB 276) 597 = .ok (.iconst 1, 1) := by decide +kernel
theorem f_276_598 : decode (mB 276) 598 = .ok (.iadd, 1) := by decide +kernel
theorem f_276_599 : decode (mB 276) 599 = .ok (.iaload, 1) := by decide +kernel
theorem f_276_600 : decode (mB 276) 600 = .ok (.aload_n 0, 1) := by decide +kernel
theorem f_276_601 : decode (mB 276) 601 = .ok (.iload_n 3, 1) := by decide +kernel
theorem f_276_602 : decode (mB 276) 602 = .ok (.iconst 2, 1) := by decide +kernel
theorem f_276_603 : decode (mB 276) 603 = .ok (.iadd, 1) := by decide +kernel
theorem f_276_604 : decode (mB 276) 604 = .ok (.iaload, 1) := by decide +kernel
theorem f_276_605 : decode (mB 276) 605 = .ok (.aload_n 0, 1) := by decide +kernel
theorem f_276_606 : decode (mB 276) 606 = .ok (.iload_n 3, 1) := by decide +kernel
theorem f_276_607 : decode (mB 276) 607 = .ok (.iconst 3, 1) := by decide +kernel
theorem f_276_608 : decode (mB 276) 608 = .ok (.iadd, 1) := by decide +kernel
theorem f_276_609 : decode (mB 276) 609 = .ok (.iaload, 1) := by decide +kernel
theorem f_276_610 : decode (mB 276) 610 = .ok (.aload_n 0, 1) := by decide +kernel
theorem f_276_611 : decode (mB 276) 611 = .ok (.iload_n 3, 1) := by decide +kernel
theorem f_276_612 : decode (mB 276) 612 = .ok (.iconst 4, 1) := by decide +kernel
theorem f_276_613 : decode (mB 276) 613 = .ok (.iadd, 1) := by decide +kernel
theorem f_276_614 : decode (mB 276) 614 = .ok (.iaload, 1) := by decide +kernel
theorem f_276_615 : decode (mB 276) 615 = .ok (.aload_n 0, 1) := by decide +kernel
theorem f_276_616 : decode (mB 276) 616 = .ok (.iload_n 3, 1) := by decide +kernel
theorem f_276_617 : decode (mB 276) 617 = .ok (.iconst 5, 1) := by decide +kernel
theorem f_276_618 : decode (mB 276) 618 = .ok (.iadd, 1) := by decide +kernel
theorem f_276_619 : decode (mB 276) 619 = .ok (.iaload, 1) := by decide +kernel
theorem f_276_620 : decode (mB 276) 620 = .ok (.invokevirtual 58, 3) := by decide +kernel
theorem f_276_623 : decode (mB 276) 623 = .ok (.if_icmp .eq 1029, 3) := by decide +kernel
theorem f_276_628 : decode (mB 276) 628 = .ok (.aload_n 1, 1) := by decide +kernel
theorem f_276_629 : decode (mB 276) 629 = .ok (.aload_n 0, 1) := by decide +kernel
theorem f_276_630 : decode (mB 276) 630 = .ok (.iload_n 3, 1) := by decide +kernel
theorem f_276_631 : decode (mB 276) 631 = .ok (.iconst 1, 1) := by decide +kernel
theorem f_276_632 : decode (mB 276) 632 = .ok (.iadd, 1) := by decide +kernel
theorem f_276_633 : decode (mB 276) 633 = .ok (.iaload, 1) := by decide +kernel
theorem f_276_634 : decode (mB 276) 634 = .ok (.aload_n 0, 1) := by decide +kernel
theorem f_276_635 : decode (mB 276) 635 = .ok (.iload_n 3, 1) := by decide +kernel
theorem f_276_636 : decode (mB 276) 636 = .ok (.iconst 2, 1) := by decide +kernel
theorem f_276_637 : decode (mB 276) 637 = .ok (.iadd, 1) := by decide +kernel
theorem f_276_638 : decode (mB 276) 638 = .ok (.iaload, 1) := by decide +kernel
theorem f_276_639 : decode (mB 276) 639 = .ok (.invokevirtual 59, 3) := by decide +kernel
theorem f_276_642 : decode (mB 276) 642 = .ok (.aload_n 2, 1) := by decide +kernel
theorem f_276_643 : decode (mB 276) 643 = .ok (.aload_n 0, 1) := by decide +kernel
theorem f_276_644 : decode (mB 276) 644 = .ok (.iload_n 3, 1) := by decide +kernel
theorem f_276_645 : decode (mB 276) 645 = .ok (.iconst 1, 1) := by decide +kernel
theorem f_276_646 : decode (mB 276) 646 = .ok (.iadd, 1) := by decide +kernel
theorem f_276_647 : decode (mB 276) 647 = .ok (.iaload, 1) := by decide +kernel
theorem f_276_648 : decode (mB 276) 648 = .ok (.aload_n 0, 1) := by decide +kernel
theorem f_276_649 : decode (mB 276) 649 = .ok (.iload_n 3, 1) := by decide +kernel
theorem f_276_650 : decode (mB 276) 650 = .ok (.iconst 2, 1) := by decide +kernel
theorem f_276_651 : decode (mB 276) 651 = .ok (.iadd, 1) := by decide +kernel
theorem f_276_652 : decode (mB 276) 652 = .ok (.iaload, 1) := by decide +kernel
theorem f_276_653 : decode (mB 276) 653 = .ok (.invokevirtual 62, 3) := by decide +kernel
theorem f_276_656 : decode (mB 276) 656 = .ok (.if_icmp .eq 996, 3) := by decide +kernel
theorem f_276_661 : decode (mB 276) 661 = .ok (.aload_n 1, 1) := by decide +kernel
theorem f_276_662 : decode (mB 276) 662 = .ok (.aload_n 0, 1) := by decide +kernel
theorem f_276_663 : decode (mB 276) 663 = .ok (.iload_n 3, 1) := by decide +kernel
theorem f_276_664 : decode (mB 276) 664 = .ok (.iconst 1, 1) := by decide +kernel
theorem f_276_665 : decode (mB 276) 665 = .ok (.iadd, 1) := by decide +kernel
theorem f_276_666 : decode (mB 276) 666 = .ok (.iaload, 1) := by decide +kernel
theorem f_276_667 : decode (mB 276) 667 = .ok (.aload_n 0, 1) := by decide +kernel
theorem f_276_668 : decode (mB 276) 668 = .ok (.iload_n 3, 1) := by decide +kernel
theorem f_276_669 : decode (mB 276) 669 = .ok (.iconst 2, 1) := by decide +kernel
theorem f_276_670 : decode (mB 276) 670 = .ok (.iadd, 1) := by decide +kernel
theorem f_276_671 : decode (mB 276) 671 = .ok (.iaload, 1) := by decide +kernel
theorem f_276_672 : decode (mB 276) 672 = .ok (.invokevirtual 63, 3) := by decide +kernel
theorem f_276_675 : decode (mB 276) 675 = .ok (.aload_n 2, 1) := by decide +kernel
theorem f_276_676 : decode (mB 276) 676 = .ok (.aload_n 0, 1) := by decide +kernel
theorem f_276_677 : decode (mB 276) 677 = .ok (.iload_n 3, 1) := by decide +kernel
theorem f_276_678 : decode (mB 276) 678 = .ok (.iconst 1, 1) := by decide +kernel
theorem f_276_679 : decode (mB 276) 679 = .ok (.iadd, 1) := by decide +kernel
theorem f_276_680 : decode (mB 276) 680 = .ok (.iaload, 1) := by decide +kernel
theorem f_276_681 : decode (mB 276) 681 = .ok (.aload_n 0, 1) := by decide +kernel
theorem f_276_682 : decode (mB 276) 682 = .ok (.iload_n 3, 1) := by decide +kernel
theorem f_276_683 : decode (mB 276) 683 = .ok (.iconst 2, 1) := by decide +kernel
theorem f_276_684 : decode (mB 276) 684 = .ok (.iadd, 1) := by decide +kernel
theorem f_276_685 : decode (mB 276) 685 = .ok (.iaload, 1) := by decide +kernel
theorem f_276_686 : decode (mB 276) 686 = .ok (.invokevirtual 66, 3) := by decide +kernel
theorem f_276_689 : decode (mB 276) 689 = .ok (.if_icmp .eq 963, 3) := by decide +kernel
theorem f_276_694 : decode (mB 276) 694 = .ok (.aload_n 1, 1) := by decide +kernel
theorem f_276_695 : decode (mB 276) 695 = .ok (.aload_n 0, 1) := by decide +kernel
theorem f_276_696 : decode (mB 276) 696 = .ok (.iload_n 3, 1) := by decide +kernel
theorem f_276_697 : decode (mB 276) 697 = .ok (.iconst 1, 1) := by decide +kernel
theorem f_276_698 : decode (mB 276) 698 = .ok (.iadd, 1) := by decide +kernel
theorem f_276_699 : decode (mB 276) 699 = .ok (.iaload, 1) := by decide +kernel
theorem f_276_700 : decode (mB 276) 700 = .ok (.aload_n 0, 1) := by decide +kernel
theorem f_276_701 : decode (mB 276) 701 = .ok (.iload_n 3, 1) := by decide +kernel
theorem f_276_702 : decode (mB 276) 702 = .ok (.iconst 2, 1) := by decide +kernel
theorem f_276_703 : decode (mB 276) 703 = .ok (.iadd, 1) := by decide +kernel
theorem f_276_704 : decode (mB 276) 704 = .ok (.iaload, 1) := by decide +kernel
theorem f_276_705 : decode (mB 276) 705 = .ok (.invokevirtual 67, 3) := by decide +kernel
theorem f_276_708 : decode (mB 276) 708 = .ok (.aload_n 2, 1) := by decide +kernel
theorem f_276_709 : decode (mB 276) 709 = .ok (.aload_n 0, 1) := by decide +kernel
theorem f_276_710 : decode (mB 276) 710 = .ok (.iload_n 3, 1) := by decide +kernel
theorem f_276_711 : decode (mB 276) 711 = .ok (.iconst 1, 1) := by decide +kernel
theorem f_276_712 : decode (mB 276) 712 = .ok (.iadd, 1) := by decide +kernel
theorem f_276_713 : decode (mB 276) 713 = .ok (.iaload, 1) := by decide +kernel
theorem f_276_714 : decode (mB 276) 714 = .ok (.aload_n 0, 1) := by decide +kernel
theorem f_276_715 : decode (mB 276) 715 = .ok (.iload_n 3, 1) := by decide +kernel
theorem f_276_716 : decode (mB 276) 716 = .ok (.iconst 2, 1) := by decide +kernel
theorem f_276_717 : decode (mB 276) 717 = .ok (.iadd, 1) := by decide +kernel
theorem f_276_718 : decode (mB 276) 718 = .ok (.iaload, 1) := by decide +kernel
theorem f_276_719 : decode (mB 276) 719 = .ok (.invokevirtual 70, 3) := by decide +kernel
theorem f_276_722 : decode (mB 276) 722 = .ok (.if_icmp .eq 930, 3) := by decide +kernel
theorem f_276_727 : decode (mB 276) 727 = .ok (.aload_n 1, 1) := by decide +kernel
theorem f_276_728 : decode (mB 276) 728 = .ok (.aload_n 0, 1) := by decide +kernel
theorem f_276_729 : decode (mB 276) 729 = .ok (.iload_n 3, 1) := by decide +kernel
theorem f_276_730 : decode (mB 276) 730 = .ok (.iconst 1, 1) := by decide +kernel
theorem f_276_731 : decode (mB 276) 731 = .ok (.iadd, 1) := by decide +kernel
theorem f_276_732 : decode (mB 276) 732 = .ok (.iaload, 1) := by decide +kernel
theorem f_276_733 : decode (mB 276) 733 = .ok (.invokevirtual 71, 3) := by decide +kernel
theorem f_276_736 : decode (mB 276) 736 = .ok (.aload_n 2, 1) := by decide +kernel
theorem f_276_737 : decode (mB 276) 737 = .ok (.aload_n 0, 1) := by decide +kernel
theorem f_276_738 : decode (mB 276) 738 = .ok (.iload_n 3, 1) := by decide +kernel
theorem f_276_739 : decode (mB 276) 739 = .ok (.iconst 1, 1) := by decide +kernel
theorem f_276_740 : decode (mB 276) 740 = .ok (.iadd, 1) := by decide +kernel
theorem f_276_741 : decode (mB 276) 741 = .ok (.iaload, 1) := by decide +kernel
theorem f_276_742 : decode (mB 276) 742 = .ok (.invokevirtual 74, 3) := by decide +kernel
theorem f_276_745 : decode (mB 276) 745 = .ok (.if_icmp .eq 907, 3) := by decide +kernel
theorem f_276_750 : decode (mB 276) 750 = .ok (.aload_n 1, 1) := by decide +kernel
theorem f_276_751 : decode (mB 276) 751 = .ok (.aload_n 0, 1) := by decide +kernel
theorem f_276_752 : decode (mB 276) 752 = .ok (.iload_n 3, 1) := by decide +kernel
theorem f_276_753 : decode (mB 276) 753 = .ok (.iconst 1, 1) := by decide +kernel
theorem f_276_754 : decode (mB 276) 754 = .ok (.iadd, 1) := by decide +kernel
theorem f_276_755 : decode (mB 276) 755 = .ok (.iaload, 1) := by decide +kernel
theorem f_276_756 : decode (mB 276) 756 = .ok (.aload_n 0, 1) := by decide +kernel
theorem f_276_757 : decode (mB 276) 757 = .ok (.iload_n 3, 1) := by decide +kernel
theorem f_276_758 : decode (mB 276) 758 = .ok (.iconst 2, 1) := by decide +kernel
theorem f_276_759 : decode (mB 276) 759 = .ok (.iadd, 1) := by decide +kernel
theorem f_276_760 : decode (mB 276) 760 = .ok (.iaload, 1) := by decide +kernel
theorem f_276_761 : decode (mB 276) 761 = .ok (.invokevirtual 75, 3) := by decide +kernel
theorem f_276_764 : decode (mB 276) 764 = .ok (.aload_n 2, 1) := by decide +kernel
theorem f_276_765 : decode (mB 276) 765 = .ok (.aload_n 0, 1) := by decide +kernel
theorem f_276_766 : decode (mB 276) 766 = .ok (.iload_n 3, 1) := by decide +kernel
theorem f_276_767 : decode (mB 276) 767 = .ok (.iconst 1, 1) := by decide +kernel
theorem f_276_768 : decode (mB 276) 768 = .ok (.iadd, 1) := by decide +kernel
theorem f_276_769 : decode (mB 276) 769 = .ok (.iaload, 1) := by decide +kernel
theorem f_276_770 : decode (mB 276) 770 = .ok (.aload_n 0, 1) := by decide +kernel
theorem f_276_771 : decode (mB 276) 771 = .ok (.iload_n 3, 1) := by decide +kernel
theorem f_276_772 : decode (mB 276) 772 = .ok (.iconst 2, 1) := by decide +kernel
theorem f_276_773 : decode (mB 276) 773 = .ok (.iadd, 1) := by decide +kernel
theorem f_276_774 : decode (mB 276) 774 = .ok (.iaload, 1) := by decide +kernel
theorem f_276_775 : decode (mB 276) 775 = .ok (.invokevirtual 78, 3) := by decide +kernel
theorem f_276_778 : decode (mB 276) 778 = .ok (.if_icmp .eq 874, 3) := by decide +kernel
theorem f_276_783 : decode (mB 276) 783 = .ok (.aload_n 1, 1) := by decide +kernel
theorem f_276_784 : decode (mB 276) 784 = .ok (.aload_n 0, 1) := by decide +kernel
theorem f_276_785 : decode (mB 276) 785 = .ok (.iload_n 3, 1) := by decide +kernel
theorem f_276_786 : decode (mB 276) 786 = .ok (.iconst 1, 1) := by decide +kernel
theorem f_276_787 : decode (mB 276) 787 = .ok (.iadd, 1) := by decide +kernel
theorem f_276_788 : decode (mB 276) 788 = .ok (.iaload, 1) := by decide +kernel
theorem f_276_789 : decode (mB 276) 789 = .ok (.aload_n 0, 1) := by decide +kernel
theorem f_276_790 : decode (mB 276) 790 = .ok (.iload_n 3, 1) := by decide +kernel
theorem f_276_791 : decode (mB 276) 791 = .ok (.iconst 2, 1) := by decide +kernel
theorem f_276_792 : decode (mB 276) 792 = .ok (.iadd, 1) := by decide +kernel
theorem f_276_793 : decode (mB 276) 793 = .ok (.iaload, 1) := by decide +kernel
theorem f_276_794 : decode (mB 276) 794 = .ok (.invokevirtual 79, 3) := by decide +kernel
theorem f_276_797 : decode (mB 276) 797 = .ok (.aload_n 2, 1) := by decide +kernel
theorem f_276_798 : decode (mB 276) 798 = .ok (.aload_n 0, 1) := by decide +kernel
theorem f_276_799 : decode (mB 276) 799 = .ok (.iload_n 3, 1) := by decide +kernel
theorem f_276_800 : decode (mB 276) 800 = .ok (.iconst 1, 1) := by decide +kernel
theorem f_276_801 : decode (mB 276) 801 = .ok (.iadd, 1) := by decide +kernel
theorem f_276_802 : decode (mB 276) 802 = .ok (.iaload, 1) := by decide +kernel
theorem f_276_803 : decode (mB 276) 803 = .ok (.aload_n 0, 1) := by decide +kernel
theorem f_276_804 : decode (mB 276) 804 = .ok (.iload_n 3, 1) := by decide +kernel
theorem f_276_805 : decode (mB 276) 805 = .ok (.iconst 2, 1) := by decide +kernel
theorem f_276_806 : decode (mB 276) 806 = .ok (.iadd, 1) := by decide +kernel
theorem f_276_807 : decode (mB 276) 807 = .ok (.iaload, 1) := by decide +kernel
theorem f_276_808 : decode (mB 276) 808 = .ok (.invokevirtual 82, 3) := by decide +kernel
theorem f_276_811 : decode (mB 276) 811 = .ok (.if_icmp .eq 841, 3) := by decide +kernel
theorem f_276_816 : decode (mB 276) 816 = .ok (.aload_n 1, 1) := by decide +kernel
theorem f_276_817 : decode (mB 276) 817 = .ok (.aload_n 0, 1) := by decide +kernel
theorem f_276_818 : decode (mB 276) 818 = .ok (.iload_n 3, 1) := by decide +kernel
theorem f_276_819 : decode (mB 276) 819 = .ok (.iconst 1, 1) := by decide +kernel
theorem f_276_820 : decode (mB 276) 820 = .ok (.iadd, 1) := by decide +kernel
theorem f_276_821 : decode (mB 276) 821 = .ok (.iaload, 1) := by decide +kernel
theorem f_276_822 : decode (mB 276) 822 = .ok (.aload_n 0, 1) := by decide +kernel
theorem f_276_823 : decode (mB 276) 823 = .ok (.iload_n 3, 1) := by decide +kernel
theorem f_276_824 : decode (mB 276) 824 = .ok (.iconst 2, 1) := by decide +kernel
theorem f_276_825 : decode (mB 276) 825 = .ok (.iadd, 1) := by decide +kernel
theorem f_276_826 : decode (mB 276) 826 = .ok (.iaload, 1) := by decide +kernel
theorem f_276_827 : decode (mB 276) 827 = .ok (.invokevirtual 83, 3) := by decide +kernel
theorem f_276_830 : decode (mB 276) 830 = .ok (.aload_n 2, 1) := by decide +kernel
theorem f_276_831 : decode (mB 276) 831 = .ok (.aload_n 0, 1) := by decide +kernel
theorem f_276_832 : decode (mB 276) 832 = .ok (.iload_n 3, 1) := by decide +kernel
theorem f_276_833 : decode (mB 276) 833 = .ok (.iconst 1, 1) := by decide +kernel
theorem f_276_834 : decode (mB 276) 834 = .ok (.iadd, 1) := by decide +kernel
theorem f_276_835 : decode (mB 276) 835 = .ok (.iaload, 1) := by decide +kernel
theorem f_276_836 : decode (mB 276) 836 = .ok (.aload_n 0, 1) := by decide +kernel
theorem f_276_837 : decode (mB 276) 837 = .ok (.iload_n 3, 1) := by decide +kernel
theorem f_276_838 : decode (mB 276) 838 = .ok (.iconst 2, 1) := by decide +kernel
theorem f_276_839 : decode (mB 276) 839 = .ok (.iadd, 1) := by decide +kernel
theorem f_276_840 : decode (mB 276) 840 = .ok (.iaload, 1) := by decide +kernel
theorem f_276_841 : decode (mB 276) 841 = .ok (.invokevirtual 86, 3) := by decide +kernel
theorem f_276_844 : decode (mB 276) 844 = .ok (.if_icmp .eq 808, 3) := by decide +kernel
theorem f_276_849 : decode (mB 276) 849 = .ok (.aload_n 1, 1) := by decide +kernel
theorem f_276_850 : decode (mB 276) 850 = .ok (.aload_n 0, 1) := by decide +kernel
theorem f_276_851 : decode (mB 276) 851 = .ok (.iload_n 3, 1) := by decide +kernel
theorem f_276_852 : decode (mB 276) 852 = .ok (.iconst 1, 1) := by decide +kernel
theorem f_276_853 : decode (mB 276) 853 = .ok (.iadd, 1) := by decide +kernel
theorem f_276_854 : decode (mB 276) 854 = .ok (.iaload, 1) := by decide +kernel
theorem f_276_855 : decode (mB 276) 855 = .ok (.aload_n 0, 1) := by decide +kernel
theorem f_276_856 : decode (mB 276) 856 = .ok (.iload_n 3, 1) := by decide +kernel
theorem f_276_857 : decode (mB 276) 857 = .ok (.iconst 2, 1) := by decide +kernel
theorem f_276_858 : decode (mB 276) 858 = .ok (.iadd, 1) := by decide +kernel
theorem f_276_859 : decode (mB 276) 859 = .ok (.iaload, 1) := by decide +kernel
theorem f_276_860 : decode (mB 276) 860 = .ok (.i2l, 1) := by decide +kernel
theorem f_276_861 : decode (mB 276) 861 = .ok (.bipush 32, 2) := by decide +kernel
theorem f_276_863 : decode (mB 276) 863 = .ok (.lshl, 1) := by decide +kernel
theorem f_276_864 : decode (mB 276) 864 = .ok (.aload_n 0, 1) := by decide +kernel
theorem f_276_865 : decode (mB 276) 865 = .ok (.iload_n 3, 1) := by decide +kernel
theorem f_276_866 : decode (mB 276) 866 = .ok (.iconst 3, 1) := by decide +kernel
theorem f_276_867 : decode (mB 276) 867 = .ok (.iadd, 1) := by decide +kernel
theorem f_276_868 : decode (mB 276) 868 = .ok (.iaload, 1) := by decide +kernel
theorem f_276_869 : decode (mB 276) 869 = .ok (.i2l, 1) := by decide +kernel
theorem f_276_870 : decode (mB 276) 870 = .ok (.ldc2_w 87, 3) := by decide +kernel
theorem f_276_873 : decode (mB 276) 873 = .ok (.land, 1) := by decide +kernel
theorem f_276_874 : decode (mB 276) 874 = .ok (.lor, 1) := by decide +kernel
theorem f_276_875 : decode (mB 276) 875 = .ok (.invokevirtual 89, 3) := by decide +kernel
theorem f_276_878 : decode (mB 276) 878 = .ok (.aload_n 2, 1) := by decide +kernel
theorem f_276_879 : decode (mB 276) 879 = .ok (.aload_n 0, 1) := by decide +kernel
theorem f_276_880 : decode (mB 276) 880 = .ok (.iload_n 3, 1) := by decide +kernel
theorem f_276_881 : decode (mB 276) 881 = .ok (.iconst 1, 1) := by decide +kernel
theorem f_276_882 : decode (mB 276) 882 = .ok (.iadd, 1) := by decide +kernel
theorem f_276_883 : decode (mB 276) 883 = .ok (.iaload, 1) := by decide +kernel
theorem f_276_884 : decode (mB 276) 884 = .ok (.aload_n 0, 1) := by decide +kernel
theorem f_276_885 : decode (mB 276) 885 = .ok (.iload_n 3, 1) := by decide +kernel
theorem f_276_886 : decode (mB 276) 886 = .ok (.iconst 2, 1) := by decide +kernel
theorem f_276_887 : decode (mB 276) 887 = .ok (.iadd, 1) := by decide +kernel
theorem f_276_888 : decode (mB 276) 888 = .ok (.iaload, 1) := by decide +kernel
theorem f_276_889 : decode (mB 276) 889 = .ok (.i2l, 1) := by decide +kernel
theorem f_276_890 : decode (mB 276) 890 = .ok (.bipush 32, 2) := by decide +kernel
theorem f_276_892 : decode (mB 276) 892 = .ok (.lshl, 1) := by decide +kernel
theorem f_276_893 : decode (mB 276) 893 = .ok (.aload_n 0, 1) := by decide +kernel
theorem f_276_894 : decode (mB 276) 894 = .ok (.iload_n 3, 1) := by decide +kernel
theorem f_276_895 : decode (mB 276) 895 = .ok (.iconst 3, 1) := by decide +kernel
theorem f_276_896 : decode (mB 276) 896 = .ok (.iadd, 1) := by decide +kernel
theorem f_276_897 : decode (mB 276) 897 = .ok (.iaload, 1) := by decide +kernel
theorem f_276_898 : decode (mB 276) 898 = .ok (.i2l, 1) := by decide +kernel
theorem f_276_899 : decode (mB 276) 899 = .ok (.ldc2_w 87, 3) := by decide +kernel
theorem f_276_902 : decode (mB 276) 902 = .ok (.land, 1) := by decide +kernel
theorem f_276_903 : decode (mB 276) 903 = .ok (.lor, 1) := by decide +kernel
theorem f_276_904 : decode (mB 276) 904 = .ok (.invokevirtual 93, 3) := by decide +kernel
theorem f_276_907 : decode (mB 276) 907 = .ok (.if_icmp .eq 745, 3) := by decide +kernel
theorem f_276_912 : decode (mB 276) 912 = .ok (.aload_n 1, 1) := by decide +kernel
theorem f_276_913 : decode (mB 276) 913 = .ok (.aload_n 0, 1) := by decide +kernel
theorem f_276_914 : decode (mB 276) 914 = .ok (.iload_n 3, 1) := by decide +kernel
theorem f_276_915 : decode (mB 276) 915 = .ok (.iconst 1, 1) := by decide +kernel
theorem f_276_916 : decode (mB 276) 916 = .ok (.iadd, 1) := by decide +kernel
theorem f_276_917 : decode (mB 276) 917 = .ok (.iaload, 1) := by decide +kernel
theorem f_276_918 : decode (mB 276) 918 = .ok (.invokevirtual 94, 3) := by decide +kernel
theorem f_276_921 : decode (mB 276) 921 = .ok (.aload_n 2, 1) := by decide +kernel
theorem f_276_922 : decode (mB 276) 922 = .ok (.aload_n 0, 1) := by decide +kernel
theorem f_276_923 : decode (mB 276) 923 = .ok (.iload_n 3, 1) := by decide +kernel
theorem f_276_924 : decode (mB 276) 924 = .ok (.iconst 1, 1) := by decide +kernel
theorem f_276_925 : decode (mB 276) 925 = .ok (.iadd, 1) := by decide +kernel
theorem f_276_926 : decode (mB 276) 926 = .ok (.iaload, 1) := by decide +kernel
theorem f_276_927 : decode (mB 276) 927 = .ok (.invokevirtual 97, 3) := by decide +kernel
theorem f_276_930 : decode (mB 276) 930 = .ok (.if_icmp .eq 722, 3) := by decide +kernel
theorem f_276_935 : decode (mB 276) 935 = .ok (.aload_n 1, 1) := by decide +kernel
theorem f_276_936 : decode (mB 276) 936 = .ok (.aload_n 0, 1) := by decide +kernel
theorem f_276_937 : decode (mB 276) 937 = .ok (.iload_n 3, 1) := by decide +kernel
theorem f_276_938 : decode (mB 276) 938 = .ok (.iconst 1, 1) := by decide +kernel
theorem f_276_939 : decode (mB 276) 939 = .ok (.iadd, 1) := by decide +kernel
theorem f_276_940 : decode (mB 276) 940 = .ok (.iaload, 1) := by decide +kernel
theorem f_276_941 : decode (mB 276) 941 = .ok (.aload_n 0, 1) := by decide +kernel
theorem f_276_942 : decode (mB 276) 942 = .ok (.iload_n 3, 1) := by decide +kernel
theorem f_276_943 : decode (mB 276) 943 = .ok (.iconst 2, 1) := by decide +kernel
theorem f_276_944 : decode (mB 276) 944 = .ok (.iadd, 1) := by decide +kernel
theorem f_276_945 : decode (mB 276) 945 = .ok (.iaload, 1) := by decide +kernel
theorem f_276_946 : decode (mB 276) 946 = .ok (.aload_n 0, 1) := by decide +kernel
theorem f_276_947 : decode (mB 276) 947 = .ok (.iload_n 3, 1) := by decide +kernel
theorem f_276_948 : decode (mB 276) 948 = .ok (.iconst 3, 1) := by decide +kernel
theorem f_276_949 : decode (mB 276) 949 = .ok (.iadd, 1) := by decide +kernel
theorem f_276_950 : decode (mB 276) 950 = .ok (.iaload, 1) := by decide +kernel
theorem f_276_951 : decode (mB 276) 951 = .ok (.invokevirtual 98, 3) := by decide +kernel
theorem f_276_954 : decode (mB 276) 954 = .ok (.aload_n 2, 1) := by decide +kernel
theorem f_276_955 : decode (mB 276) 955 = .ok (.aload_n 0, 1) := by decide +kernel
theorem f_276_956 : decode (mB 276) 956 = .ok (.iload_n 3, 1) := by decide +kernel
theorem f_276_957 : decode (mB 276) 957 = .ok (.iconst 1, 1) := by decide +kernel
theorem f_276_958 : decode (mB 276) 958 = .ok (.iadd, 1) := by decide +kernel
theorem f_276_959 : decode (mB 276) 959 = .ok (.iaload, 1) := by decide +kernel
theorem f_276_960 : decode (mB 276) 960 = .ok (.aload_n 0, 1) := by decide +kernel
theorem f_276_961 : decode (mB 276) 961 = .ok (.iload_n 3, 1) := by decide +kernel
theorem f_276_962 : decode (mB 276) 962 = .ok (.iconst 2, 1) := by decide +kernel
theorem f_276_963 : decode (mB 276) 963 = .ok (.iadd, 1) := by decide +kernel
theorem f_276_964 : decode (mB 276) 964 = .ok (.iaload, 1) := by decide +kernel
theorem f_276_965 : decode (mB 276) 965 = .ok (.aload_n 0, 1) := by decide +kernel
theorem f_276_966 : decode (mB 276) 966 = .ok (.iload_n 3, 1) := by decide +kernel
theorem f_276_967 : decode (mB 276) 967 = .ok (.iconst 3, 1) := by decide +kernel
theorem f_276_968 : decode (mB 276) 968 = .ok (.iadd, 1) := by decide +kernel
theorem f_276_969 : decode (mB 276) 969 = .ok (.iaload, 1) := by decide +kernel
theorem f_276_970 : decode (mB 276) 970 = .ok (.invokevirtual 102, 3) := by decide +kernel
theorem f_276_973 : decode (mB 276) 973 = .ok (.if_icmp .eq 679, 3) := by decide +kernel
theorem f_276_978 : decode (mB 276) 978 = .ok (.aload_n 1, 1) := by decide +kernel
theorem f_276_979 : decode (mB 276) 979 = .ok (.aload_n 0, 1) := by decide +kernel
theorem f_276_980 : decode (mB 276) 980 = .ok (.iload_n 3, 1) := by decide +kernel
theorem f_276_981 : decode (mB 276) 981 = .ok (.iconst 1, 1) := by decide +kernel
theorem f_276_982 : decode (mB 276) 982 = .ok (.iadd, 1) := by decide +kernel
theorem f_276_983 : decode (mB 276) 983 = .ok (.iaload, 1) := by decide +kernel
theorem f_276_984 : decode (mB 276) 984 = .ok (.aload_n 0, 1) := by decide +kernel
theorem f_276_985 : decode (mB 276) 985 = .ok (.iload_n 3, 1) := by decide +kernel
theorem f_276_986 : decode (mB 276) 986 = .ok (.iconst 2, 1) := by decide +kernel
theorem f_276_987 : decode (mB 276) 987 = .ok (.iadd, 1) := by decide +kernel
theorem f_276_988 : decode (mB 276) 988 = .ok (.iaload, 1) := by decide +kernel
theorem f_276_989 : decode (mB 276) 989 = .ok (.invokevirtual 103, 3) := by decide +kernel
theorem f_276_992 : decode (mB 276) 992 = .ok (.aload_n 2, 1) := by decide +kernel
theorem f_276_993 : decode (mB 276) 993 = .ok (.aload_n 0, 1) := by decide +kernel
theorem f_276_994 : decode (mB 276) 994 = .ok (.iload_n 3, 1) := by decide +kernel
theorem f_276_995 : decode (mB 276) 995 = .ok (.iconst 1, 1) := by decide +kernel
theorem f_276_996 : decode (mB 276) 996 = .ok (.iadd, 1) := by decide +kernel
theorem f_276_997 : decode (mB 276) 997 = .ok (.iaload, 1) := by decide +kernel
theorem f_276_998 : decode (mB 276) 998 = .ok (.aload_n 0, 1) := by decide +kernel
theorem f_276_999 : decode (mB 276) 999 = .ok (.iload_n 3, 1) := by decide +kernel
theorem f_276_1000 : decode (mB 276) 1000 = .ok (.iconst 2, 1) := by decide +kernel
theorem f_276_1001 : decode (mB 276) 1001 = .ok (.iadd, 1) := by decide +kernel
theorem f_276_1002 : decode (mB 276) 1002 = .ok (.iaload, 1) := by decide +kernel
theorem f_276_1003 : decode (mB 276) 1003 = .ok (.invokevirtual 106, 3) := by decide +kernel
theorem f_276_1006 : decode (mB 276) 1006 = .ok (.if_icmp .eq 646, 3) := by decide +kernel
theorem f_276_1011 : decode (mB 276) 1011 = .ok (.aload_n 1, 1) := by decide +kernel
theorem f_276_1012 : decode (mB 276) 1012 = .ok (.aload_n 0, 1) := by decide +kernel
theorem f_276_1013 : decode (mB 276) 1013 = .ok (.iload_n 3, 1) := by decide +kernel
theorem f_276_1014 : decode (mB 276) 1014 = .ok (.iconst 1, 1) := by decide +kernel
theorem f_276_1015 : decode (mB 276) 1015 = .ok (.iadd, 1) := by decide +kernel
theorem f_276_1016 : decode (mB 276) 1016 = .ok (.iaload, 1) := by decide +kernel
theorem f_276_1017 : decode (mB 276) 1017 = .ok (.aload_n 0, 1) := by decide +kernel
theorem f_276_1018 : decode (mB 276) 1018 = .ok (.iload_n 3, 1) := by decide +kernel
theorem f_276_1019 : decode (mB 276) 1019 = .ok (.iconst 2, 1) := by decide +kernel
theorem f_276_1020 : decode (mB 276) 1020 = .ok (.iadd, 1) := by decide +kernel
theorem f_276_1021 : decode (mB 276) 1021 = .ok (.iaload, 1) := by decide +kernel
theorem f_276_1022 : decode (mB 276) 1022 = .ok (.aload_n 0, 1) := by decide +kernel
theorem f_276_1023 : decode (mB 276) 1023 = .ok (.iload_n 3, 1) := by decide +kernel
theorem f_276_1024 : decode (mB 276) 1024 = .ok (.iconst 3, 1) := by decide +kernel
theorem f_276_1025 : decode (mB 276) 1025 = .ok (.iadd, 1) := by decide +kernel
theorem f_276_1026 : decode (mB 276) 1026 = .ok (.iaload, 1) := by decide +kernel
theorem f_276_1027 : decode (mB 276) 1027 = .ok (.invokevirtual 107, 3) := by decide +kernel
theorem f_276_1030 : decode (mB 276) 1030 = .ok (.aload_n 2, 1) := by decide +kernel
theorem f_276_1031 : decode (mB 276) 1031 = .ok (.aload_n 0, 1) := by decide +kernel
theorem f_276_1032 : decode (mB 276) 1032 = .ok (.iload_n 3, 1) := by decide +kernel
theorem f_276_1033 : decode (mB 276) 1033 = .ok (.iconst 1, 1) := by decide +kernel
theorem f_276_1034 : decode (mB 276) 1034 = .ok (.iadd, 1) := by decide +kernel
theorem f_276_1035 : decode (mB 276) 1035 = .ok (.iaload, 1) := by decide +kernel
theorem f_276_1036 : decode (mB 276) 1036 = .ok (.aload_n 0, 1) := by decide +kernel
theorem f_276_1037 : decode (mB 276) 1037 = .ok (.iload_n 3, 1) := by decide +kernel
theorem f_276_1038 : decode (mB 276) 1038 = .ok (.iconst 2, 1) := by decide +kernel
theorem f_276_1039 : decode (mB 276) 1039 = .ok (.iadd, 1) := by decide +kernel
theorem f_276_1040 : decode (mB 276) 1040 = .ok (.iaload, 1) := by decide +kernel
theorem f_276_1041 : decode (mB 276) 1041 = .ok (.aload_n 0, 1) := by decide +kernel
theorem f_276_1042 : decode (mB 276) 1042 = .ok (.iload_n 3, 1) := by decide +kernel
theorem f_276_1043 : decode (mB 276) 1043 = .ok (.iconst 3, 1) := by decide +kernel
theorem f_276_1044 : decode (mB 276) 1044 = .ok (.iadd, 1) := by decide +kernel
theorem f_276_1045 : decode (mB 276) 1045 = .ok (.iaload, 1) := by decide +kernel
theorem f_276_1046 : decode (mB 276) 1046 = .ok (.invokevirtual 110, 3) := by decide +kernel
theorem f_276_1049 : decode (mB 276) 1049 = .ok (.if_icmp .eq 603, 3) := by decide +kernel
theorem f_276_1054 : decode (mB 276) 1054 = .ok (.aload_n 1, 1) := by decide +kernel
theorem f_276_1055 : decode (mB 276) 1055 = .ok (.aload_n 0, 1) := by decide +kernel
theorem f_276_1056 : decode (mB 276) 1056 = .ok (.iload_n 3, 1) := by decide +kernel
theorem f_276_1057 : decode (mB 276) 1057 = .ok (.iconst 1, 1) := by decide +kernel
theorem f_276_1058 : decode (mB 276) 1058 = .ok (.iadd, 1) := by decide +kernel
theorem f_276_1059 : decode (mB 276) 1059 = .ok (.iaload, 1) := by decide +kernel
theorem f_276_1060 : decode (mB 276) 1060 = .ok (.aload_n 0, 1) := by decide +kernel
theorem f_276_1061 : decode (mB 276) 1061 = .ok (.iload_n 3, 1) := by decide +kernel
theorem f_276_1062 : decode (mB 276) 1062 = .ok (.iconst 2, 1) := by decide +kernel
theorem f_276_1063 : decode (mB 276) 1063 = .ok (.iadd, 1) := by decide +kernel
theorem f_276_1064 : decode (mB 276) 1064 = .ok (.iaload, 1) := by decide +kernel
theorem f_276_1065 : decode (mB 276) 1065 = .ok (.aload_n 0, 1) := by decide +kernel
theorem f_276_1066 : decode (mB 276) 1066 = .ok (.iload_n 3, 1) := by decide +kernel
theorem f_276_1067 : decode (mB 276) 1067 = .ok (.iconst 3, 1) := by decide +kernel
theorem f_276_1068 : decode (mB 276) 1068 = .ok (.iadd, 1) := by decide +kernel
theorem f_276_1069 : decode (mB 276) 1069 = .ok (.iaload, 1) := by decide +kernel
theorem f_276_1070 : decode (mB 276) 1070 = .ok (.invokevirtual 111, 3) := by decide +kernel
theorem f_276_1073 : decode (mB 276) 1073 = .ok (.aload_n 2, 1) := by decide +kernel
theorem f_276_1074 : decode (mB 276) 1074 = .ok (.aload_n 0, 1) := by decide +kernel
theorem f_276_1075 : decode (mB 276) 1075 = .ok (.iload_n 3, 1) := by decide +kernel
theorem f_276_1076 : decode (mB 276) 1076 = .ok (.iconst 1, 1) := by decide +kernel
theorem f_276_1077 : decode (mB 276) 1077 = .ok (.iadd, 1) := by decide +kernel
theorem f_276_1078 : decode (mB 276) 1078 = .ok (.iaload, 1) := by decide +kernel
theorem f_276_1079 : decode (mB 276) 1079 = .ok (.aload_n 0, 1) := by decide +kernel
theorem f_276_1080 : decode (mB 276) 1080 = .ok (.iload_n 3, 1) := by decide +kernel
theorem f_276_1081 : decode (mB 276) 1081 = .ok (.iconst 2, 1) := by decide +kernel
theorem f_276_1082 : decode (mB 276) 1082 = .ok (.iadd, 1) := by decide +kernel
theorem f_276_1083 : decode (mB 276) 1083 = .ok (.iaload, 1) := by decide +kernel
theorem f_276_1084 : decode (mB 276) 1084 = .ok (.aload_n 0, 1) := by decide +kernel
theorem f_276_1085 : decode (mB 276) 1085 = .ok (.iload_n 3, 1) := by decide +kernel
theorem f_276_1086 : decode (mB 276) 1086 = .ok (.iconst 3, 1) := by decide +kernel
theorem f_276_1087 : decode (mB 276) 1087 = .ok (.iadd, 1) := by decide +kernel
theorem f_276_1088 : decode (mB 276) 1088 = .ok (.iaload, 1) := by decide +kernel
theorem f_276_1089 : decode (mB 276) 1089 = .ok (.invokevirtual 114, 3) := by decide +kernel
theorem f_276_1092 : decode (mB 276) 1092 = .ok (.if_icmp .eq 560, 3) := by decide +kernel
theorem f_276_1097 : decode (mB 276) 1097 = .ok (.aload_n 1, 1) := by decide +kernel
theorem f_276_1098 : decode (mB 276) 1098 = .ok (.aload_n 0, 1) := by decide +kernel
theorem f_276_1099 : decode (mB 276) 1099 = .ok (.iload_n 3, 1) := by decide +kernel
theorem f_276_1100 : decode (mB 276) 1100 = .ok (.iconst 1, 1) := by decide +kernel
theorem f_276_1101 : decode (mB 276) 1101 = .ok (.iadd, 1) := by decide +kernel
theorem f_276_1102 : decode (mB 276) 1102 = .ok (.iaload, 1) := by decide +kernel
theorem f_276_1103 : decode (mB 276) 1103 = .ok (.aload_n 0, 1) := by decide +kernel
theorem f_276_1104 : decode (mB 276) 1104 = .ok (.iload_n 3, 1) := by decide +kernel
theorem f_276_1105 : decode (mB 276) 1105 = .ok (.iconst 2, 1) := by decide +kernel
theorem f_276_1106 : decode (mB 276) 1106 = .ok (.iadd, 1) := by decide +kernel
theorem f_276_1107 : decode (mB 276) 1107 = .ok (.iaload, 1) := by decide +kernel
theorem f_276_1108 : decode (mB 276) 1108 = .ok (.aload_n 0, 1) := by decide +kernel
theorem f_276_1109 : decode (mB 276) 1109 = .ok (.iload_n 3, 1) := by decide +kernel
theorem f_276_1110 : decode (mB 276) 1110 = .ok (.iconst 3, 1) := by decide +kernel
theorem f_276_1111 : decode (mB 276) 1111 = .ok (.iadd, 1) := by decide +kernel
theorem f_276_1112 : decode (mB 276) 1112 = .ok (.iaload, 1) := by decide +kernel
theorem f_276_1113 : decode (mB 276) 1113 = .ok (.invokevirtual 115, 3) := by decide +kernel
theorem f_276_1116 : decode (mB 276) 1116 = .ok (.aload_n 2, 1) := by decide +kernel
theorem f_276_1117 : decode (mB 276) 1117 = .ok (.aload_n 0, 1) := by decide +kernel
theorem f_276_1118 : decode (mB 276) 1118 = .ok (.iload_n 3, 1) := by decide +kernel
theorem f_276_1119 : decode (mB 276) 1119 = .ok (.iconst 1, 1) := by decide +kernel
theorem f_276_1120 : decode (mB 276) 1120 = .ok (.iadd, 1) := by decide +kernel
theorem f_276_1121 : decode (mB 276) 1121 = .ok (.iaload, 1) := by decide +kernel
theorem f_276_1122 : decode (mB 276) 1122 = .ok (.aload_n 0, 1) := by decide +kernel
theorem f_276_1123 : decode (mB 276) 1123 = .ok (.iload_n 3, 1) := by decide +kernel
theorem f_276_1124 : decode (mB 276) 1124 = .ok (.iconst 2, 1) := by decide +kernel
theorem f_276_1125 : decode (mB 276) 1125 = .ok (.iadd, 1) := by decide +kernel
theorem f_276_1126 : decode (mB 276) 1126 = .ok (.iaload, 1) := by decide +kernel
theorem f_276_1127 : decode (mB 276) 1127 = .ok (.aload_n 0, 1) := by decide +kernel
theorem f_276_1128 : decode (mB 276) 1128 = .ok (.iload_n 3, 1) := by decide +kernel
theorem f_276_1129 : decode (mB 276) 1129 = .ok (.iconst 3, 1) := by decide +kernel
theorem f_276_1130 : decode (mB 276) 1130 = .ok (.iadd, 1) := by decide +kernel
theorem f_276_1131 : decode (mB 276) 1131 = .ok (.iaload, 1) := by decide +kernel
theorem f_276_1132 : decode (mB 276) 1132 = .ok (.invokevirtual 118, 3) := by decide +kernel
theorem f_276_1135 : decode (mB 276) 1135 = .ok (.if_icmp .eq 517, 3) := by decide +kernel
theorem f_276_1140 : decode (mB 276) 1140 = .ok (.aload_n 1, 1) := by decide +kernel
theorem f_276_1141 : decode (mB 276) 1141 = .ok (.aload_n 0, 1) := by decide +kernel
theorem f_276_1142 : decode (mB 276) 1142 = .ok (.iload_n 3, 1) := by decide +kernel
theorem f_276_1143 : decode (mB 276) 1143 = .ok (.iconst 1, 1) := by decide +kernel
theorem f_276_1144 : decode (mB 276) 1144 = .ok (.iadd, 1) := by decide +kernel
theorem f_276_1145 : decode (mB 276) 1145 = .ok (.iaload, 1) := by decide +kernel
theorem f_276_1146 : decode (mB 276) 1146 = .ok (.aload_n 0, 1) := by decide +kernel
theorem f_276_1147 : decode (mB 276) 1147 = .ok (.iload_n 3, 1) := by decide +kernel
theorem f_276_1148 : decode (mB 276) 1148 = .ok (.iconst 2, 1) := by decide +kernel
theorem f_276_1149 : decode (mB 276) 1149 = .ok (.iadd, 1) := by decide +kernel
theorem f_276_1150 : decode (mB 276) 1150 = .ok (.iaload, 1) := by decide +kernel
theorem f_276_1151 : decode (mB 276) 1151 = .ok (.aload_n 0, 1) := by decide +kernel
theorem f_276_1152 : decode (mB 276) 1152 = .ok (.iload_n 3, 1) := by decide +kernel
theorem f_276_1153 : decode (mB 276) 1153 = .ok (.iconst 3, 1) := by decide +kernel
theorem f_276_1154 : decode (mB 276) 1154 = .ok (.iadd, 1) := by decide +kernel
theorem f_276_1155 : decode (mB 276) 1155 = .ok (.iaload, 1) := by decide +kernel
theorem f_276_1156 : decode (mB 276) 1156 = .ok (.invokevirtual 119, 3) := by decide +kernel
theorem f_276_1159 : decode (mB 276) 1159 = .ok (.aload_n 2, 1) := by decide +kernel
theorem f_276_1160 : decode (mB 276) 1160 = .ok (.aload_n 0, 1) := by decide +kernel
theorem f_276_1161 : decode (mB 276) 1161 = .ok (.iload_n 3, 1) := by decide +kernel
theorem f_276_1162 : decode (mB 276) 1162 = .ok (.iconst 1, 1) := by decide +kernel
theorem f_276_1163 : decode (mB 276) 1163 = .ok (.iadd, 1) := by decide +kernel
theorem f_276_1164 : decode (mB 276) 1164 = .ok (.iaload, 1) := by decide +kernel
theorem f_276_1165 : decode (mB 276) 1165 = .ok (.aload_n 0, 1) := by decide +kernel
theorem f_276_1166 : decode (mB 276) 1166 = .ok (.iload_n 3, 1) := by decide +kernel
theorem f_276_1167 : decode (mB 276) 1167 = .ok (.iconst 2, 1) := by decide +kernel
theorem f_276_1168 : decode (mB 276) 1168 = .ok (.iadd, 1) := by decide +kernel
theorem f_276_1169 : decode (mB 276) 1169 = .ok (.iaload, 1) := by decide +kernel
theorem f_276_1170 : decode (mB 276) 1170 = .ok (.aload_n 0, 1) := by decide +kernel
theorem f_276_1171 : decode (mB 276) 1171 = .ok (.iload_n 3, 1) := by decide +kernel
theorem f_276_1172 : decode (mB 276) 1172 = .ok (.iconst 3, 1) := by decide +kernel
theorem f_276_1173 : decode (mB 276) 1173 = .ok (.iadd, 1) := by decide +kernel
theorem f_276_1174 : decode (mB 276) 1174 = .ok (.iaload, 1) := by decide +kernel
theorem f_276_1175 : decode (mB 276) 1175 = .ok (.invokevirtual 122, 3) := by decide +kernel
theorem f_276_1178 : decode (mB 276) 1178 = .ok (.if_icmp .eq 474, 3) := by decide +kernel
theorem f_276_1183 : decode (mB 276) 1183 = .ok (.aload_n 1, 1) := by decide +kernel
theorem f_276_1184 : decode (mB 276) 1184 = .ok (.aload_n 0, 1) := by decide +kernel
theorem f_276_1185 : decode (mB 276) 1185 = .ok (.iload_n 3, 1) := by decide +kernel
theorem f_276_1186 : decode (mB 276) 1186 = .ok (.iconst 1, 1) := by decide +kernel
theorem f_276_1187 : decode (mB 276) 1187 = .ok (.iadd, 1) := by decide +kernel
theorem f_276_1188 : decode (mB 276) 1188 = .ok (.iaload, 1) := by decide +kernel
theorem f_276_1189 : decode (mB 276) 1189 = .ok (.aload_n 0, 1) := by decide +kernel
theorem f_276_1190 : decode (mB 276) 1190 = .ok (.iload_n 3, 1) := by decide +kernel
theorem f_276_1191 : decode (mB 276) 1191 = .ok (.iconst 2, 1) := by decide +kernel
theorem f_276_1192 : decode (mB 276) 1192 = .ok (.iadd, 1) := by decide +kernel
theorem f_276_1193 : decode (mB 276) 1193 = .ok (.iaload, 1) := by decide +kernel
theorem f_276_1194 : decode (mB 276) 1194 = .ok (.invokevirtual 123, 3) := by decide +kernel
theorem f_276_1197 : decode (mB 276) 1197 = .ok (.aload_n 2, 1) := by decide +kernel
theorem f_276_1198 : decode (mB 276) 1198 = .ok (.aload_n 0, 1) := by decide +kernel
theorem f_276_1199 : decode (mB 276) 1199 = .ok (.iload_n 3, 1) := by decide +kernel
theorem f_276_1200 : decode (mB 276) 1200 = .ok (.iconst 1, 1) := by decide +kernel
theorem f_276_1201 : decode (mB 276) 1201 = .ok (.iadd, 1) := by decide +kernel
theorem f_276_1202 : decode (mB 276) 1202 = .ok (.iaload, 1) := by decide +kernel
theorem f_276_1203 : decode (mB 276) 1203 = .ok (.aload_n 0, 1) := by decide +kernel
theorem f_276_1204 : decode (mB 276) 1204 = .ok (.iload_n 3, 1) := by decide +kernel
theorem f_276_1205 : decode (mB 276) 1205 = .ok (.iconst 2, 1) := by decide +kernel
theorem f_276_1206 : decode (mB 276) 1206 = .ok (.iadd, 1) := by decide +kernel
theorem f_276_1207 : decode (mB 276) 1207 = .ok (.iaload, 1) := by decide +kernel
theorem f_276_1208 : decode (mB 276) 1208 = .ok (.invokevirtual 126, 3) := by decide +kernel
theorem f_276_1211 : decode (mB 276) 1211 = .ok (.if_icmp .eq 441, 3) := by decide +kernel
theorem f_276_1216 : decode (mB 276) 1216 = .ok (.aload_n 1, 1) := by decide +kernel
theorem f_276_1217 : decode (mB 276) 1217 = .ok (.aload_n 0, 1) := by decide +kernel
theorem f_276_1218 : decode (mB 276) 1218 = .ok (.iload_n 3, 1) := by decide +kernel
theorem f_276_1219 : decode (mB 276) 1219 = .ok (.iconst 1, 1) := by decide +kernel
theorem f_276_1220 : decode (mB 276) 1220 = .ok (.iadd, 1) := by decide +kernel
theorem f_276_1221 : decode (mB 276) 1221 = .ok (.iaload, 1) := by decide +kernel
theorem f_276_1222 : decode (mB 276) 1222 = .ok (.invokevirtual 127, 3) := by decide +kernel
theorem f_276_1225 : decode (mB 276) 1225 = .ok (.aload_n 2, 1) := by decide +kernel
theorem f_276_1226 : decode (mB 276) 1226 = .ok (.aload_n 0, 1) := by decide +kernel
theorem f_276_1227 : decode (mB 276) 1227 = .ok (.iload_n 3, 1) := by decide +kernel
theorem f_276_1228 : decode (mB 276) 1228 = .ok (.iconst 1, 1) := by decide +kernel
theorem f_276_1229 : decode (mB 276) 1229 = .ok (.iadd, 1) := by decide +kernel
theorem f_276_1230 : decode (mB 276) 1230 = .ok (.iaload, 1) := by decide +kernel
theorem f_276_1231 : decode (mB 276) 1231 = .ok (.invokevirtual 130, 3) := by decide +kernel
theorem f_276_1234 : decode (mB 276) 1234 = .ok (.if_icmp .eq 418, 3) := by decide +kernel
theorem f_276_1239 : decode (mB 276) 1239 = .ok (.aload_n 1, 1) := by decide +kernel
theorem f_276_1240 : decode (mB 276) 1240 = .ok (.aload_n 0, 1) := by decide +kernel
theorem f_276_1241 : decode (mB 276) 1241 = .ok (.iload_n 3, 1) := by decide +kernel
theorem f_276_1242 : decode (mB 276) 1242 = .ok (.iconst 1, 1) := by decide +kernel
theorem f_276_1243 : decode (mB 276) 1243 = .ok (.iadd, 1) := by decide +kernel
theorem f_276_1244 : decode (mB 276) 1244 = .ok (.iaload, 1) := by decide +kernel
theorem f_276_1245 : decode (mB 276) 1245 = .ok (.invokevirtual 131, 3) := by decide +kernel
theorem f_276_1248 : decode (mB 276) 1248 = .ok (.aload_n 2, 1) := by decide +kernel
theorem f_276_1249 : decode (mB 276) 1249 = .ok (.aload_n 0, 1) := by decide +kernel
theorem f_276_1250 : decode (mB 276) 1250 = .ok (.iload_n 3, 1) := by decide +kernel
theorem f_276_1251 : decode (mB 276) 1251 = .ok (.iconst 1, 1) := by decide +kernel
theorem f_276_1252 : decode (mB 276) 1252 = .ok (.iadd, 1) := by decide +kernel
theorem f_276_1253 : decode (mB 276) 1253 = .ok (.iaload, 1) := by decide +kernel
theorem f_276_1254 : decode (mB 276) 1254 = .ok (.invokevirtual 134, 3) := by decide +kernel
theorem f_276_1257 : decode (mB 276) 1257 = .ok (.if_icmp .eq 395, 3) := by decide +kernel
theorem f_276_1262 : decode (mB 276) 1262 = .ok (.aload_n 1, 1) := by decide +kernel
theorem f_276_1263 : decode (mB 276) 1263 = .ok (.aload_n 0, 1) := by decide +kernel
theorem f_276_1264 : decode (mB 276) 1264 = .ok (.iload_n 3, 1) := by decide +kernel
theorem f_276_1265 : decode (mB 276) 1265 = .ok (.iconst 1, 1) := by decide +kernel
theorem f_276_1266 : decode (mB 276) 1266 = .ok (.iadd, 1) := by decide +kernel
theorem f_276_1267 : decode (mB 276) 1267 = .ok (.iaload, 1) := by decide +kernel
theorem f_276_1268 : decode (mB 276) 1268 = .ok (.invokevirtual 135, 3) := by decide +kernel
theorem f_276_1271 : decode (mB 276) 1271 = .ok (.aload_n 2, 1) := by decide +kernel
theorem f_276_1272 : decode (mB 276) 1272 = .ok (.aload_n 0, 1) := by decide +kernel
theorem f_276_1273 : decode (mB 276) 1273 = .ok (.iload_n 3, 1) := by decide +kernel
theorem f_276_1274 : decode (mB 276) 1274 = .ok (.iconst 1, 1) := by decide +kernel
theorem f_276_1275 : decode (mB 276) 1275 = .ok (.iadd, 1) := by decide +kernel
theorem f_276_1276 : decode (mB 276) 1276 = .ok (.iaload, 1) := by decide +kernel
theorem f_276_1277 : decode (mB 276) 1277 = .ok (.invokevirtual 138, 3) := by decide +kernel
theorem f_276_1280 : decode (mB 276) 1280 = .ok (.if_icmp .eq 372, 3) := by decide +kernel
theorem f_276_1285 : decode (mB 276) 1285 = .ok (.aload_n 1, 1) := by decide +kernel
theorem f_276_1286 : decode (mB 276) 1286 = .ok (.aload_n 0, 1) := by decide +kernel
theorem f_276_1287 : decode (mB 276) 1287 = .ok (.iload_n 3, 1) := by decide +kernel
theorem f_276_1288 : decode (mB 276) 1288 = .ok (.iconst 1, 1) := by decide +kernel
theorem f_276_1289 : decode (mB 276) 1289 = .ok (.iadd, 1) := by decide +kernel
theorem f_276_1290 : decode (mB 276) 1290 = .ok (.iaload, 1) := by decide +kernel
theorem f_276_1291 : decode (mB 276) 1291 = .ok (.aload_n 0, 1) := by decide +kernel
theorem f_276_1292 : decode (mB 276) 1292 = .ok (.iload_n 3, 1) := by decide +kernel
theorem f_276_1293 : decode (mB 276) 1293 = .ok (.iconst 2, 1) := by decide +kernel
theorem f_276_1294 : decode (mB 276) 1294 = .ok (.iadd, 1) := by decide +kernel
theorem f_276_1295 : decode (mB 276) 1295 = .ok (.iaload, 1) := by decide +kernel
theorem f_276_1296 : decode (mB 276) 1296 = .ok (.aload_n 0, 1) := by decide +kernel
theorem f_276_1297 : decode (mB 276) 1297 = .ok (.iload_n 3, 1) := by decide +kernel
theorem f_276_1298 : decode (mB 276) 1298 = .ok (.iconst 3, 1) := by decide +kernel
theorem f_276_1299 : decode (mB 276) 1299 = .ok (.iadd, 1) := by decide +kernel
theorem f_276_1300 : decode (mB 276) 1300 = .ok (.iaload, 1) := by decide +kernel
theorem f_276_1301 : decode (mB 276) 1301 = .ok (.aload_n 0, 1) := by decide +kernel
theorem f_276_1302 : decode (mB 276) 1302 = .ok (.iload_n 3, 1) := by decide +kernel
theorem f_276_1303 : decode (mB 276) 1303 = .ok (.iconst 4, 1) := by decide +kernel
theorem f_276_1304 : decode (mB 276) 1304 = .ok (.iadd, 1) := by decide +kernel
theorem f_276_1305 : decode (mB 276) 1305 = .ok (.iaload, 1) := by decide +kernel
theorem f_276_1306 : decode (mB 276) 1306 = .ok (.invokevirtual 139, 3) := by decide +kernel
theorem f_276_1309 : decode (mB 276) 1309 = .ok (.aload_n 2, 1) := by decide +kernel
theorem f_276_1310 : decode (mB 276) 1310 = .ok (.aload_n 0, 1) := by decide +kernel
theorem f_276_1311 : decode (mB 276) 1311 = .ok (.iload_n 3, 1) := by decide +kernel
theorem f_276_1312 : decode (mB 276) 1312 = .ok (.iconst 1, 1) := by decide +kernel
theorem f_276_1313 : decode (mB 276) 1313 = .ok (.iadd, 1) := by decide +kernel
theorem f_276_1314 : decode (mB 276) 1314 = .ok (.iaload, 1) := by decide +kernel
theorem f_276_1315 : decode (mB 276) 1315 = .ok (.aload_n 0, 1) := by decide +kernel
theorem f_276_1316 : decode (mB 276) 1316 = .ok (.iload_n 3, 1) := by decide +kernel
theorem f_276_1317 : decode (mB 276) 1317 = .ok (.iconst 2, 1) := by decide +kernel
theorem f_276_1318 : decode (mB 276) 1318 = .ok (.iadd, 1) := by decide +kernel
theorem f_276_1319 : decode (mB 276) 1319 = .ok (.iaload, 1) := by decide +kernel
theorem f_276_1320 : decode (mB 276) 1320 = .ok (.aload_n 0, 1) := by decide +kernel
theorem f_276_1321 : decode (mB 276) 1321 = .ok (.iload_n 3, 1) := by decide +kernel
theorem f_276_1322 : decode (mB 276) 1322 = .ok (.iconst 3, 1) := by decide +kernel
theorem f_276_1323 : decode (mB 276) 1323 = .ok (.iadd, 1) := by decide +kernel
theorem f_276_1324 : decode (mB 276) 1324 = .ok (.iaload, 1) := by decide +kernel
theorem f_276_1325 : decode (mB 276) 1325 = .ok (.aload_n 0, 1) := by decide +kernel
theorem f_276_1326 : decode (mB 276) 1326 = .ok (.iload_n 3, 1) := by decide +kernel
theorem f_276_1327 : decode (mB 276) 1327 = .ok (.iconst 4, 1) := by decide +kernel
theorem f_276_1328 : decode (mB 276) 1328 = .ok (.iadd, 1) := by decide +kernel
theorem f_276_1329 : decode (mB 276) 1329 = .ok (.iaload, 1) := by decide +kernel
theorem f_276_1330 : decode (mB 276) 1330 = .ok (.invokevirtual 142, 3) := by decide +kernel
theorem f_276_1333 : decode (mB 276) 1333 = .ok (.if_icmp .eq 319, 3) := by decide +kernel
theorem f_276_1338 : decode (mB 276) 1338 = .ok (.aload_n 1, 1) := by decide +kernel
theorem f_276_1339 : decode (mB 276) 1339 = .ok (.aload_n 0, 1) := by decide +kernel
theorem f_276_1340 : decode (mB 276) 1340 = .ok (.iload_n 3, 1) := by decide +kernel
theorem f_276_1341 : decode (mB 276) 1341 = .ok (.iconst 1, 1) := by decide +kernel
theorem f_276_1342 : decode (mB 276) 1342 = .ok (.iadd, 1) := by decide +kernel
theorem f_276_1343 : decode (mB 276) 1343 = .ok (.iaload, 1) := by decide +kernel
theorem f_276_1344 : decode (mB 276) 1344 = .ok (.aload_n 0, 1) := by decide +kernel
theorem f_276_1345 : decode (mB 276) 1345 = .ok (.iload_n 3, 1) := by decide +kernel
theorem f_276_1346 : decode (mB 276) 1346 = .ok (.iconst 2, 1) := by decide +kernel
theorem f_276_1347 : decode (mB 276) 1347 = .ok (.iadd, 1) := by decide +kernel
theorem f_276_1348 : decode (mB 276) 1348 = .ok (.iaload, 1) := by decide +kernel
theorem f_276_1349 : decode (mB 276) 1349 = .ok (.aload_n 0, 1) := by decide +kernel
theorem f_276_1350 : decode (mB 276) 1350 = .ok (.iload_n 3, 1) := by decide +kernel
theorem f_276_1351 : decode (mB 276) 1351 = .ok (.iconst 3, 1) := by decide +kernel
theorem f_276_1352 : decode (mB 276) 1352 = .ok (.iadd, 1) := by decide +kernel
theorem f_276_1353 : decode (mB 276) 1353 = .ok (.iaload, 1) := by decide +kernel
theorem f_276_1354 : decode (mB 276) 1354 = .ok (.aload_n 0, 1) := by decide +kernel
theorem f_276_1355 : decode (mB 276) 1355 = .ok (.iload_n 3, 1) := by decide +kernel
theorem f_276_1356 : decode (mB 276) 1356 = .ok (.iconst 4, 1) := by decide +kernel
theorem f_276_1357 : decode (mB 276) 1357 = .ok (.iadd, 1) := by decide +kernel
theorem f_276_1358 : decode (mB 276) 1358 = .ok (.iaload, 1) := by decide +kernel
theorem f_276_1359 : decode (mB 276) 1359 = .ok (.aload_n 0, 1) := by decide +kernel
theorem f_276_1360 : decode (mB 276) 1360 = .ok (.iload_n 3, 1) := by decide +kernel
theorem f_276_1361 : decode (mB 276) 1361 = .ok (.iconst 5, 1) := by decide +kernel
theorem f_276_1362 : decode (mB 276) 1362 = .ok (.iadd, 1) := by decide +kernel
theorem f_276_1363 : decode (mB 276) 1363 = .ok (.iaload, 1) := by decide +kernel
theorem f_276_1364 : decode (mB 276) 1364 = .ok (.invokevirtual 143, 3) := by decide +kernel
theorem f_276_1367 : decode (mB 276) 1367 = .ok (.aload_n 2, 1) := by decide +kernel
theorem f_276_1368 : decode (mB 276) 1368 = .ok (.aload_n 0, 1) := by decide +kernel
theorem f_276_1369 : decode (mB 276) 1369 = .ok (.iload_n 3, 1) := by decide +kernel
theorem f_276_1370 : decode (mB 276) 1370 = .ok (.iconst 1, 1) := by decide +kernel
theorem f_276_1371 : decode (mB 276) 1371 = .ok (.iadd, 1) := by decide +kernel
theorem f_276_1372 : decode (mB 276) 1372 = .ok (.iaload, 1) := by decide +kernel
theorem f_276_1373 : decode (mB 276) 1373 = .ok (.aload_n 0, 1) := by decide +kernel
theorem f_276_1374 : decode (mB 276) 1374 = .ok (.iload_n 3, 1) := by decide +kernel
theorem f_276_1375 : decode (mB 276) 1375 = .ok (.iconst 2, 1) := by decide +kernel
theorem f_276_1376 : decode (mB 276) 1376 = .ok (.iadd, 1) := by decide +kernel
theorem f_276_1377 : decode (mB 276) 1377 = .ok (.iaload, 1) := by decide +kernel
theorem f_276_1378 : decode (mB 276) 1378 = .ok (.aload_n 0, 1) := by decide +kernel
theorem f_276_1379 : decode (mB 276) 1379 = .ok (.iload_n 3, 1) := by decide +kernel
theorem f_276_1380 : decode (mB 276) 1380 = .ok (.iconst 3, 1) := by decide +kernel
theorem f_276_1381 : decode (mB 276) 1381 = .ok (.iadd, 1) := by decide +kernel
theorem f_276_1382 : decode (mB 276) 1382 = .ok (.iaload, 1) := by decide +kernel
theorem f_276_1383 : decode (mB 276) 1383 = .ok (.aload_n 0, 1) := by decide +kernel
theorem f_276_1384 : decode (mB 276) 1384 = .ok (.iload_n 3, 1) := by decide +kernel
theorem f_276_1385 : decode (mB 276) 1385 = .ok (.iconst 4, 1) := by decide +kernel
theorem f_276_1386 : decode (mB 276) 1386 = .ok (.iadd, 1) := by decide +kernel
theorem f_276_1387 : decode (mB 276) 1387 = .ok (.iaload, 1) := by decide +kernel
theorem f_276_1388 : decode (mB 276) 1388 = .ok (.aload_n 0, 1) := by decide +kernel
theorem f_276_1389 : decode (mB 276) 1389 = .ok (.iload_n 3, 1) := by decide +kernel
theorem f_276_1390 : decode (mB 276) 1390 = .ok (.iconst 5, 1) := by decide +kernel
theorem f_276_1391 : decode (mB 276) 1391 = .ok (.iadd, 1) := by decide +kernel
theorem f_276_1392 : decode (mB 276) 1392 = .ok (.iaload, 1) := by decide +kernel
theorem f_276_1393 : decode (mB 276) 1393 = .ok (.invokevirtual 146, 3) := by decide +kernel
theorem f_276_1396 : decode (mB 276) 1396 = .ok (.if_icmp .eq 256, 3) := by decide +kernel
theorem f_276_1401 : decode (mB 276) 1401 = .ok (.aload_n 1, 1) := by decide +kernel
theorem f_276_1402 : decode (mB 276) 1402 = .ok (.aload_n 0, 1) := by decide +kernel
theorem f_276_1403 : decode (mB 276) 1403 = .ok (.iload_n 3, 1) := by decide +kernel
theorem f_276_1404 : decode (mB 276) 1404 = .ok (.iconst 1, 1) := by decide +kernel
theorem f_276_1405 : decode (mB 276) 1405 = .ok (.iadd, 1) := by decide +kernel
theorem f_276_1406 : decode (mB 276) 1406 = .ok (.iaload, 1) := by decide +kernel
theorem f_276_1407 : decode (mB 276) 1407 = .ok (.aload_n 0, 1) := by decide +kernel
theorem f_276_1408 : decode (mB 276) 1408 = .ok (.iload_n 3, 1) := by decide +kernel
theorem f_276_1409 : decode (mB 276) 1409 = .ok (.iconst 2, 1) := by decide +kernel
theorem f_276_1410 : decode (mB 276) 1410 = .ok (.iadd, 1) := by decide +kernel
theorem f_276_1411 : decode (mB 276) 1411 = .ok (.iaload, 1) := by decide +kernel
theorem f_276_1412 : decode (mB 276) 1412 = .ok (.aload_n 0, 1) := by decide +kernel
theorem f_276_1413 : decode (mB 276) 1413 = .ok (.iload_n 3, 1) := by decide +kernel
theorem f_276_1414 : decode (mB 276) 1414 = .ok (.iconst 3, 1) := by decide +kernel
theorem f_276_1415 : decode (mB 276) 1415 = .ok (.iadd, 1) := by decide +kernel
theorem f_276_1416 : decode (mB 276) 1416 = .ok (.iaload, 1) := by decide +kernel
theorem f_276_1417 : decode (mB 276) 1417 = .ok (.aload_n 0, 1) := by decide +kernel
theorem f_276_1418 : decode (mB 276) 1418 = .ok (.iload_n 3, 1) := by decide +kernel
theorem f_276_1419 : decode (mB 276) 1419 = .ok (.iconst 4, 1) := by decide +kernel
theorem f_276_1420 : decode (mB 276) 1420 = .ok (.iadd, 1) := by decide +kernel
theorem f_276_1421 : decode (mB 276) 1421 = .ok (.iaload, 1) := by decide +kernel
theorem f_276_1422 : decode (mB 276) 1422 = .ok (.invokevirtual 147, 3) := by decide +kernel
theorem f_276_1425 : decode (mB 276) 1425 = .ok (.aload_n 2, 1) := by decide +kernel
theorem f_276_1426 : decode (mB 276) 1426 = .ok (.aload_n 0, 1) := by decide +kernel
theorem f_276_1427 : decode (mB 276) 1427 = .ok (.iload_n 3, 1) := by decide +kernel
theorem f_276_1428 : decode (mB 276) 1428 = .ok (.iconst 1, 1) := by decide +kernel
theorem f_276_1429 : decode (mB 276) 1429 = .ok (.iadd, 1) := by decide +kernel
theorem f_276_1430 : decode (mB 276) 1430 = .ok (.iaload, 1) := by decide +kernel
theorem f_276_1431 : decode (mB 276) 1431 = .ok (.aload_n 0, 1) := by decide +kernel
theorem f_276_1432 : decode (mB 276) 1432 = .ok (.iload_n 3, 1) := by decide +kernel
theorem f_276_1433 : decode (mB 276) 1433 = .ok (.iconst 2, 1) := by decide +kernel
theorem f_276_1434 : decode (mB 276) 1434 = .ok (.iadd, 1) := by decide +kernel
theorem f_276_1435 : decode (mB 276) 1435 = .ok (.iaload, 1) := by decide +kernel
theorem f_276_1436 : decode (mB 276) 1436 = .ok (.aload_n 0, 1) := by decide +kernel
theorem f_276_1437 : decode (mB 276) 1437 = .ok (.iload_n 3, 1) := by decide +kernel
theorem f_276_1438 : decode (mB 276) 1438 = .ok (.iconst 3, 1) := by decide +kernel
theorem f_276_1439 : decode (mB 276) 1439 = .ok (.iadd, 1) := by decide +kernel
theorem f_276_1440 : decode (mB 276) 1440 = .ok (.iaload, 1) := by decide +kernel
theorem f_276_1441 : decode (mB 276) 1441 = .ok (.aload_n 0, 1) := by decide +kernel
theorem f_276_1442 : decode (mB 276) 1442 = .ok (.iload_n 3, 1) := by decide +kernel
theorem f_276_1443 : decode (mB 276) 1443 = .ok (.iconst 4, 1) := by decide +kernel
theorem f_276_1444 : decode (mB 276) 1444 = .ok (.iadd, 1) := by decide +kernel
theorem f_276_1445 : decode (mB 276) 1445 = .ok (.iaload, 1) := by decide +kernel
theorem f_276_1446 : decode (mB 276) 1446 = .ok (.invokevirtual 150, 3) := by decide +kernel
theorem f_276_1449 : decode (mB 276) 1449 = .ok (.if_icmp .eq 203, 3) := by decide +kernel
theorem f_276_1454 : decode (mB 276) 1454 = .ok (.aload_n 1, 1) := by decide +kernel
theorem f_276_1455 : decode (mB 276) 1455 = .ok (.aload_n 0, 1) := by decide +kernel
theorem f_276_1456 : decode (mB 276) 1456 = .ok (.iload_n 3, 1) := by decide +kernel
theorem f_276_1457 : decode (mB 276) 1457 = .ok (.iconst 1, 1) := by decide +kernel
theorem f_276_1458 : decode (mB 276) 1458 = .ok (.iadd, 1) := by decide +kernel
theorem f_276_1459 : decode (mB 276) 1459 = .ok (.iaload, 1) := by decide +kernel
theorem f_276_1460 : decode (mB 276) 1460 = .ok (.aload_n 0, 1) := by decide +kernel
theorem f_276_1461 : decode (mB 276) 1461 = .ok (.iload_n 3, 1) := by decide +kernel
theorem f_276_1462 : decode (mB 276) 1462 = .ok (.iconst 2, 1) := by decide +kernel
theorem f_276_1463 : decode (mB 276) 1463 = .ok (.iadd, 1) := by decide +kernel
theorem f_276_1464 : decode (mB 276) 1464 = .ok (.iaload, 1) := by decide +kernel
theorem f_276_1465 : decode (mB 276) 1465 = .ok (.aload_n 0, 1) := by decide +kernel
theorem f_276_1466 : decode (mB 276) 1466 = .ok (.iload_n 3, 1) := by decide +kernel
theorem f_276_1467 : decode (mB 276) 1467 = .ok (.iconst 3, 1) := by decide +kernel
theorem f_276_1468 : decode (mB 276) 1468 = .ok (.iadd, 1) := by decide +kernel
theorem f_276_1469 : decode (mB 276) 1469 = .ok (.iaload, 1) := by decide +kernel
theorem f_276_1470 : decode (mB 276) 1470 = .ok (.invokevirtual 151, 3) := by decide +kernel
theorem f_276_1473 : decode (mB 276) 1473 = .ok (.aload_n 2, 1) := by decide +kernel
theorem f_276_1474 : decode (mB 276) 1474 = .ok (.aload_n 0, 1) := by decide +kernel
theorem f_276_1475 : decode (mB 276) 1475 = .ok (.iload_n 3, 1) := by decide +kernel
theorem f_276_1476 : decode (mB 276) 1476 = .ok (.iconst 1, 1) := by decide +kernel
theorem f_276_1477 : decode (mB 276) 1477 = .ok (.iadd, 1) := by decide +kernel
theorem f_276_1478 : decode (mB 276) 1478 = .ok (.iaload, 1) := by decide +kernel
theorem f_276_1479 : decode (mB 276) 1479 = .ok (.aload_n 0, 1) := by decide +kernel
theorem f_276_1480 : decode (mB 276) 1480 = .ok (.iload_n 3, 1) := by decide +kernel
theorem f_276_1481 : decode (mB 276) 1481 = .ok (.iconst 2, 1) := by decide +kernel
theorem f_276_1482 : decode (mB 276) 1482 = .ok (.iadd, 1) := by decide +kernel
theorem f_276_1483 : decode (mB 276) 1483 = .ok (.iaload, 1) := by decide +kernel
theorem f_276_1484 : decode (mB 276) 1484 = .ok (.aload_n 0, 1) := by decide +kernel
theorem f_276_1485 : decode (mB 276) 1485 = .ok (.iload_n 3, 1) := by decide +kernel
theorem f_276_1486 : decode (mB 276) 1486 = .ok (.iconst 3, 1) := by decide +kernel
theorem f_276_1487 : decode (mB 276) 1487 = .ok (.iadd, 1) := by decide +kernel
theorem f_276_1488 : decode (mB 276) 1488 = .ok (.iaload, 1) := by decide +kernel
theorem f_276_1489 : decode (mB 276) 1489 = .ok (.invokevirtual 154, 3) := by decide +kernel
theorem f_276_1492 : decode (mB 276) 1492 = .ok (.if_icmp .eq 160, 3) := by decide +kernel
theorem f_276_1497 : decode (mB 276) 1497 = .ok (.aload_n 1, 1) := by decide +kernel
theorem f_276_1498 : decode (mB 276) 1498 = .ok (.aload_n 0, 1) := by decide +kernel
theorem f_276_1499 : decode (mB 276) 1499 = .ok (.iload_n 3, 1) := by decide +kernel
theorem f_276_1500 : decode (mB 276) 1500 = .ok (.iconst 1, 1) := by decide +kernel
theorem f_276_1501 : decode (mB 276) 1501 = .ok (.iadd, 1) := by decide +kernel
theorem f_276_1502 : decode (mB 276) 1502 = .ok (.iaload, 1) := by decide +kernel
theorem f_276_1503 : decode (mB 276) 1503 = .ok (.aload_n 0, 1) := by decide +kernel
theorem f_276_1504 : decode (mB 276) 1504 = .ok (.iload_n 3, 1) := by decide +kernel
theorem f_276_1505 : decode (mB 276) 1505 = .ok (.iconst 2, 1) := by decide +kernel
theorem f_276_1506 : decode (mB 276) 1506 = .ok (.iadd, 1) := by decide +kernel
theorem f_276_1507 : decode (mB 276) 1507 = .ok (.iaload, 1) := by decide +kernel
theorem f_276_1508 : decode (mB 276) 1508 = .ok (.aload_n 0, 1) := by decide +kernel
theorem f_276_1509 : decode (mB 276) 1509 = .ok (.iload_n 3, 1) := by decide +kernel
theorem f_276_1510 : decode (mB 276) 1510 = .ok (.iconst 3, 1) := by decide +kernel
theorem f_276_1511 : decode (mB 276) 1511 = .ok (.iadd, 1) := by decide +kernel
theorem f_276_1512 : decode (mB 276) 1512 = .ok (.iaload, 1) := by decide +kernel
theorem f_276_1513 : decode (mB 276) 1513 = .ok (.invokevirtual 155, 3) := by decide +kernel
theorem f_276_1516 : decode (mB 276) 1516 = .ok (.aload_n 2, 1) := by decide +kernel
theorem f_276_1517 : decode (mB 276) 1517 = .ok (.aload_n 0, 1) := by decide +kernel
theorem f_276_1518 : decode (mB 276) 1518 = .ok (.iload_n 3, 1) := by decide +kernel
theorem f_276_1519 : decode (mB 276) 1519 = .ok (.iconst 1, 1) := by decide +kernel
theorem f_276_1520 : decode (mB 276) 1520 = .ok (.iadd, 1) := by decide +kernel
theorem f_276_1521 : decode (mB 276) 1521 = .ok (.iaload, 1) := by decide +kernel
theorem f_276_1522 : decode (mB 276) 1522 = .ok (.aload_n 0, 1) := by decide +kernel
theorem f_276_1523 : decode (mB 276) 1523 = .ok (.iload_n 3, 1) := by decide +kernel
theorem f_276_1524 : decode (mB 276) 1524 = .ok (.iconst 2, 1) := by decide +kernel
theorem f_276_1525 : decode (mB 276) 1525 = .ok (.iadd, 1) := by decide +kernel
theorem f_276_1526 : decode (mB 276) 1526 = .ok (.iaload, 1) := by decide +kernel
theorem f_276_1527 : decode (mB 276) 1527 = .ok (.aload_n 0, 1) := by decide +kernel
theorem f_276_1528 : decode (mB 276) 1528 = .ok (.iload_n 3, 1) := by decide +kernel
theorem f_276_1529 : decode (mB 276) 1529 = .ok (.iconst 3, 1) := by decide +kernel
theorem f_276_1530 : decode (mB 276) 1530 = .ok (.iadd, 1) := by decide +kernel
theorem f_276_1531 : decode (mB 276) 1531 = .ok (.iaload, 1) := by decide +kernel
theorem f_276_1532 : decode (mB 276) 1532 = .ok (.invokevirtual 158, 3) := by decide +kernel
theorem f_276_1535 : decode (mB 276) 1535 = .ok (.if_icmp .eq 117, 3) := by decide +kernel
theorem f_276_1540 : decode (mB 276) 1540 = .ok (.aload_n 1, 1) := by decide +kernel
theorem f_276_1541 : decode (mB 276) 1541 = .ok (.aload_n 0, 1) := by decide +kernel
theorem f_276_1542 : decode (mB 276) 1542 = .ok (.iload_n 3, 1) := by decide +kernel
theorem f_276_1543 : decode (mB 276) 1543 = .ok (.iconst 1, 1) := by decide +kernel
theorem f_276_1544 : decode (mB 276) 1544 = .ok (.iadd, 1) := by decide +kernel
theorem f_276_1545 : decode (mB 276) 1545 = .ok (.iaload, 1) := by decide +kernel
theorem f_276_1546 : decode (mB 276) 1546 = .ok (.aload_n 0, 1) := by decide +kernel
theorem f_276_1547 : decode (mB 276) 1547 = .ok (.iload_n 3, 1) := by decide +kernel
theorem f_276_1548 : decode (mB 276) 1548 = .ok (.iconst 2, 1) := by decide +kernel
theorem f_276_1549 : decode (mB 276) 1549 = .ok (.iadd, 1) := by decide +kernel
theorem f_276_1550 : decode (mB 276) 1550 = .ok (.iaload, 1) := by decide +kernel
theorem f_276_1551 : decode (mB 276) 1551 = .ok (.aload_n 0, 1) := by decide +kernel
theorem f_276_1552 : decode (mB 276) 1552 = .ok (.iload_n 3, 1) := by decide +kernel
theorem f_276_1553 : decode (mB 276) 1553 = .ok (.iconst 3, 1) := by decide +kernel
theorem f_276_1554 : decode (mB 276) 1554 = .ok (.iadd, 1) := by decide +kernel
theorem f_276_1555 : decode (mB 276) 1555 = .ok (.iaload, 1) := by decide +kernel
theorem f_276_1556 : decode (mB 276) 1556 = .ok (.aload_n 0, 1) := by decide +kernel
theorem f_276_1557 : decode (mB 276) 1557 = .ok (.iload_n 3, 1) := by decide +kernel
theorem f_276_1558 : decode (mB 276) 1558 = .ok (.iconst 4, 1) := by decide +kernel
theorem f_276_1559 : decode (mB 276) 1559 = .ok (.iadd, 1) := by decide +kernel
theorem f_276_1560 : decode (mB 276) 1560 = .ok (.iaload, 1) := by decide +kernel
theorem f_276_1561 : decode (mB 276) 1561 = .ok (.aload_n 0, 1) := by decide +kernel
theorem f_276_1562 : decode (mB 276) 1562 = .ok (.iload_n 3, 1) := by decide +kernel
theorem f_276_1563 : decode (mB 276) 1563 = .ok (.iconst 5, 1) := by decide +kernel
theorem f_276_1564 : decode (mB 276) 1564 = .ok (.iadd, 1) := by decide +kernel
theorem f_276_1565 : decode (mB 276) 1565 = .ok (.iaload, 1) := by decide +kernel
theorem f_276_1566 : decode (mB 276) 1566 = .ok (.invokevirtual 159, 3) := by decide +kernel
theorem f_276_1569 : decode (mB 276) 1569 = .ok (.aload_n 2, 1) := by decide +kernel
theorem f_276_1570 : decode (mB 276) 1570 = .ok (.aload_n 0, 1) := by decide +kernel
theorem f_276_1571 : decode (mB 276) 1571 = .ok (.iload_n 3, 1) := by decide +kernel
theorem f_276_1572 : decode (mB 276) 1572 = .ok (.iconst 1, 1) := by decide +kernel
theorem f_276_1573 : decode (mB 276) 1573 = .ok (.iadd, 1) := by decide +kernel
theorem f_276_1574 : decode (mB 276) 1574 = .ok (.iaload, 1) := by decide +kernel
theorem f_276_1575 : decode (mB 276) 1575 = .ok (.aload_n 0, 1) := by decide +kernel
theorem f_276_1576 : decode (mB 276) 1576 = .ok (.iload_n 3, 1) := by decide +kernel
theorem f_276_1577 : decode (mB 276) 1577 = .ok (.iconst 2, 1) := by decide +kernel
theorem f_276_1578 : decode (mB 276) 1578 = .ok (.iadd, 1) := by decide +kernel
theorem f_276_1579 : decode (mB 276) 1579 = .ok (.iaload, 1) := by decide +kernel
theorem f_276_1580 : decode (mB 276) 1580 = .ok (.aload_n 0, 1) := by decide +kernel
theorem f_276_1581 : decode (mB 276) 1581 = .ok (.iload_n 3, 1) := by decide +kernel
theorem f_276_1582 : decode (mB 276) 1582 = .ok (.iconst 3, 1) := by decide +kernel
theorem f_276_1583 : decode (mB 276) 1583 = .ok (.iadd, 1) := by decide +kernel
theorem f_276_1584 : decode (mB 276) 1584 = .ok (.iaload, 1) := by decide +kernel
theorem f_276_1585 : decode (mB 276) 1585 = .ok (.aload_n 0, 1) := by decide +kernel
theorem f_276_1586 : decode (mB 276) 1586 = .ok (.iload_n 3, 1) := by decide +kernel
theorem f_276_1587 : decode (mB 276) 1587 = .ok (.iconst 4, 1) := by decide +kernel
theorem f_276_1588 : decode (mB 276) 1588 = .ok (.iadd, 1) := by decide +kernel
theorem f_276_1589 : decode (mB 276) 1589 = .ok (.iaload, 1) := by decide +kernel
theorem f_276_1590 : decode (mB 276) 1590 = .ok (.aload_n 0, 1) := by decide +kernel
theorem f_276_1591 : decode (mB 276) 1591 = .ok (.iload_n 3, 1) := by decide +kernel
theorem f_276_1592 : decode (mB 276) 1592 = .ok (.iconst 5, 1) := by decide +kernel
theorem f_276_1593 : decode (mB 276) 1593 = .ok (.iadd, 1) := by decide +kernel
theorem f_276_1594 : decode (mB 276) 1594 = .ok (.iaload, 1) := by decide +kernel
theorem f_276_1595 : decode (mB 276) 1595 = .ok (.invokevirtual 162, 3) := by decide +kernel
theorem f_276_1598 : decode (mB 276) 1598 = .ok (.if_icmp .eq 54, 3) := by decide +kernel
theorem f_276_1603 : decode (mB 276) 1603 = .ok (.aload_n 1, 1) := by decide +kernel
theorem f_276_1604 : decode (mB 276) 1604 = .ok (.invokevirtual 163, 3) := by decide +kernel
theorem f_276_1607 : decode (mB 276) 1607 = .ok (.aload_n 2, 1) := by decide +kernel
theorem f_276_1608 : decode (mB 276) 1608 = .ok (.invokevirtual 167, 3) := by decide +kernel
theorem f_276_1611 : decode (mB 276) 1611 = .ok (.if_icmp .eq 41, 3) := by decide +kernel
theorem f_276_1616 : decode (mB 276) 1616 = .ok (.aload_n 1, 1) := by decide +kernel
theorem f_276_1617 : decode (mB 276) 1617 = .ok (.invokevirtual 168, 3) := by decide +kernel
theorem f_276_1620 : decode (mB 276) 1620 = .ok (.aload_n 2, 1) := by decide +kernel
theorem f_276_1621 : decode (mB 276) 1621 = .ok (.invokevirtual 171, 3) := by decide +kernel
theorem f_276_1624 : decode (mB 276) 1624 = .ok (.if_icmp .eq 28, 3) := by decide +kernel
theorem f_276_1629 : decode (mB 276) 1629 = .ok (.aload_n 1, 1) := by decide +kernel
theorem f_276_1630 : decode (mB 276) 1630 = .ok (.aload_n 0, 1) := by decide +kernel
theorem f_276_1631 : decode (mB 276) 1631 = .ok (.iload_n 3, 1) := by decide +kernel
theorem f_276_1632 : decode (mB 276) 1632 = .ok (.iconst 1, 1) := by decide +kernel
theorem f_276_1633 : decode (mB 276) 1633 = .ok (.iadd, 1) := by decide +kernel
theorem f_276_1634 : decode (mB 276) 1634 = .ok (.iaload, 1) := by decide +kernel
theorem f_276_1635 : decode (mB 276) 1635 = .ok (.invokevirtual 172, 3) := by decide +kernel
theorem f_276_1638 : decode (mB 276) 1638 = .ok (.aload_n 2, 1) := by decide +kernel
theorem f_276_1639 : decode (mB 276) 1639 = .ok (.aload_n 0, 1) := by decide +kernel
theorem f_276_1640 : decode (mB 276) 1640 = .ok (.iload_n 3, 1) := by decide +kernel
theorem f_276_1641 : decode (mB 276) 1641 = .ok (.iconst 1, 1) := by decide +kernel
theorem f_276_1642 : decode (mB 276) 1642 = .ok (.iadd, 1) := by decide +kernel
theorem f_276_1643 : decode (mB 276) 1643 = .ok (.iaload, 1) := by decide +kernel
theorem f_276_1644 : decode (mB 276) 1644 = .ok (.invokevirtual 175, 3) := by decide +kernel
theorem f_276_1647 : decode (mB 276) 1647 = .ok (.if_icmp .eq 5, 3) := by decide +kernel
theorem f_276_1652 : decode (mB 276) 1652 = .ok (.iinc 3 6, 3) := by decide +kernel
theorem f_276_1655 : decode (mB 276) 1655 = .ok (.goto (-1637), 3) := by decide +kernel
theorem f_276_1658 : decode (mB 276) 1658 = .ok (.iconst 1, 1) := by decide +kernel
theorem f_276_1659 : decode (mB 276) 1659 = .ok (.ireturn, 1) := by decide +kernel
theorem kl_40_87 : konl 40 87 = some (40, 87, 4294967295) := by decide +kernel
theorem nc_40_7 : ncl 40 7 = some (40, 7, 0) := by decide +kernel
theorem nc_40_10 : ncl 40 10 = some (40, 10, 12) := by decide +kernel
section LawRows
variable {l : Launch} {G : aG} {d mc ms y pc : Nat} {lv : List (Nat × Value)} {st : List Value} {bc bs : Nat} {Q : Option Value → aHeap → Prop}
variable {sl : Nat} {sx : Nat → Int32} {S : SS} {K : KS} {T : TS} {X : XS} {M : SS}
theorem O_scr {i : Int32} {q : Nat} (hd : decode (mB y) pc = .ok (.iaload, 1)) (hi : i = nI q) (hq : q < sl) (hl : sl < 2 ^ 31) (kk : aAt l G d mc ms y (pc + 1) lv (.int (sx q) :: st) bc bs (LH (old0 sl sx) S K T X M) Q) : aAt l G d mc ms y pc lv (.int i :: .ref 0 :: st) bc bs (LH (old0 sl sx) S K T X M) Q := by
  subst hi
  refine s_iaload hd (show 0 < 172 + X.2 by omega) rfl ?_ ?_ kk
  · show vp_in (nI q) sl
    exact (vpn hq hl).1
  · rw [(vpn hq hl).2]
    rfl
theorem s_nz {v : Int32} {h : aHeap} {off off2 : Int} (h1 : decode (mB y) pc = .ok (.ifCond .eq off, 3)) (h2 : decode (mB y) (pc + 3) = .ok (.iconst 1, 1)) (h3 : decode (mB y) (pc + 4) = .ok (.goto off2, 3)) (h4 : decode (mB y) (pc + 7) = .ok (.iconst 0, 1)) (e1 : off = 7) (e2 : off2 = 4) (k : aAt l G d mc ms y (pc + 8) lv (.int (b2i (!decide (v = 0))) :: st) bc bs h Q) : aAt l G d mc ms y pc lv (.int v :: st) bc bs h Q := by
  subst e1 e2
  refine s_if_eq (pc + 7) h1 (by omega) (fun c => ?_) (fun c => ?_)
  · refine k_iconst (v := 0) h4 (by decide) ?_
    rw [decide_eq_true c] at k
    exact k
  · refine k_iconst (v := 1) h2 (by decide) ?_
    refine s_goto (pc + 8) h3 (by omega) ?_
    rw [decide_eq_false c] at k
    exact k
theorem lw_sub {n : Nat} (hl : sl < 2 ^ 31) (hn : 6 * n < 2 ^ 30) : (nI sl - 6 < nI (6 * n)) ↔ sl < 6 * n + 6 := by
  have e : (nI sl - 6).toInt = (sl : Int) - 6 := by
    rw [Int32.toInt_sub, nI_toInt hl]
    show ((sl : Int) - 6).bmod (2 ^ 32) = _
    rw [Int.bmod_eq_of_le (by omega) (by omega)]
  rw [Int32.lt_iff_toInt_lt, e, nI_toInt (by omega)]
  omega
theorem lw_out {n : Nat} (hl : sl < 2 ^ 31) (hn : sl < 6 * n + 6) (hn2 : 6 * n < 2 ^ 30) : aAt l G d mc ms 276 18 [(0, .ref 0), (1, .ref 8), (2, .ref 154), (3, .int (nI (6 * n)))] [] bc bs (LH (old0 sl sx) S K T X M) (fun r _ => r = some (.int 1)) := by
  refine s_iload_n f_276_18 rfl ?_
  refine s_aload_n f_276_19 rfl ?_
  refine s_alen f_276_20 (show 0 < 172 + X.2 by omega) (show 20 ≤ 20 by decide) ?_
  refine k_bipush (v := 6) f_276_21 (by decide) ?_
  refine s_isub f_276_23 ?_
  refine s_icmp_gt 1658 f_276_24 (by decide) (fun c => ?_) (fun c => absurd ((lw_sub hl hn2).mpr hn) c)
  refine k_iconst (v := 1) f_276_1658 (by decide) ?_
  exact s_ireturn f_276_1659 rfl rfl rfl
theorem lw_in {n : Nat} (hl : sl < 2 ^ 31) (hn : 6 * n + 6 ≤ sl) (hn2 : 6 * n < 2 ^ 30) (k : aAt l G d mc ms 276 33 [(0, .ref 0), (1, .ref 8), (2, .ref 154), (3, .int (nI (6 * n)))] [.int (sx (6 * n + 0) &&& 63)] bc bs (LH (old0 sl sx) S K T X M) Q) : aAt l G d mc ms 276 18 [(0, .ref 0), (1, .ref 8), (2, .ref 154), (3, .int (nI (6 * n)))] [] bc bs (LH (old0 sl sx) S K T X M) Q := by
  refine s_iload_n f_276_18 rfl ?_
  refine s_aload_n f_276_19 rfl ?_
  refine s_alen f_276_20 (show 0 < 172 + X.2 by omega) (show 20 ≤ 20 by decide) ?_
  refine k_bipush (v := 6) f_276_21 (by decide) ?_
  refine s_isub f_276_23 ?_
  refine s_icmp_gt 1658 f_276_24 (by decide) (fun c => absurd ((lw_sub hl hn2).mp c) (by omega)) (fun c => ?_)
  refine s_aload_n f_276_27 rfl ?_
  refine s_iload_n f_276_28 rfl ?_
  refine O_scr (q := 6 * n + 0) f_276_29 rfl (by omega) hl ?_
  refine k_bipush (v := 63) f_276_30 (by decide) ?_
  exact s_iand f_276_32 k
theorem lw_next {n : Nat} {h : aHeap} (k : aAt l G d mc ms 276 18 [(0, .ref 0), (1, .ref 8), (2, .ref 154), (3, .int (nI (6 * (n + 1))))] [] bc bs h Q) : aAt l G d mc ms 276 1652 [(0, .ref 0), (1, .ref 8), (2, .ref 154), (3, .int (nI (6 * n)))] [] bc bs h Q := by
  refine k_iinc (w := 6) f_276_1652 rfl (by decide) (by decide) ?_
  refine s_goto 18 f_276_1655 (by decide) ?_
  refine aAt.sub [(0, .ref 0), (1, .ref 8), (2, .ref 154), (3, .int (nI (6 * (n + 1))))] ?_ k
  rw [show 6 * (n + 1) = 6 * n + 6 by omega, ← nI_add (6 * n) 6]
  rfl
end LawRows
theorem law_loop {l : Launch} {G : aG} {sl : Nat} {sx : Nat → Int32} {Rel : SS → KS → TS → XS → SS → Prop} (hL : sl < 2 ^ 20) (h_person : ∀ (S : SS) (K : KS) (T : TS) (X : XS) (M : SS) (z0 : Int32) (z1 : Int32) (z2 : Int32) (z3 : Int32), Rel S K T X M → ∃ p q, cD_person S z0 z1 z2 z3 = some p ∧ rM_person M z0 z1 z2 z3 = some q ∧ p.1 = q.1 ∧ Rel p.2 K T X q.2) (h_lives : ∀ (S : SS) (K : KS) (T : TS) (X : XS) (M : SS) (z0 : Int32) (z1 : Bool) (z2 : Bool), Rel S K T X M → ∃ p q, cD_lives S z0 z1 z2 = some p ∧ rM_lives M z0 z1 z2 = some q ∧ p.1 = q.1 ∧ Rel p.2 K T X q.2) (h_fear : ∀ (S : SS) (K : KS) (T : TS) (X : XS) (M : SS) (z0 : Int32) (z1 : Int32), Rel S K T X M → ∃ p q, cD_fear S z0 z1 = some p ∧ rM_fear M z0 z1 = some q ∧ p.1 = q.1 ∧ Rel p.2 K T X q.2) (h_die : ∀ (S : SS) (K : KS) (T : TS) (X : XS) (M : SS) (z0 : Int32), Rel S K T X M → ∃ p q, cD_die S z0 = some p ∧ rM_die M z0 = some q ∧ p.1 = q.1 ∧ Rel p.2 K T X q.2) (h_personIs : ∀ (S : SS) (K : KS) (T : TS) (X : XS) (M : SS) (z0 : Int32) (z1 : Int32), Rel S K T X M → ∃ p q, cD_personIs S z0 z1 = some p ∧ rM_personIs M z0 z1 = some q ∧ p.1 = q.1 ∧ Rel p.2 K T X q.2) (h_field : ∀ (S : SS) (K : KS) (T : TS) (X : XS) (M : SS) (z0 : Int32) (z1 : Int32) (z2 : Bool), Rel S K T X M → ∃ p q, cD_field S z0 z1 z2 = some p ∧ rM_field M z0 z1 z2 = some q ∧ p.1 = q.1 ∧ Rel p.2 K T X q.2) (h_fieldIs : ∀ (S : SS) (K : KS) (T : TS) (X : XS) (M : SS) (z0 : Int32) (z1 : Int32), Rel S K T X M → ∃ p q, cD_fieldIs S z0 z1 = some p ∧ rM_fieldIs M z0 z1 = some q ∧ p.1 = q.1 ∧ Rel p.2 K T X q.2) (h_heirs : ∀ (S : SS) (K : KS) (T : TS) (X : XS) (M : SS) (z0 : Int32), Rel S K T X M → ∃ p q, cD_heirs S z0 = some p ∧ rM_heirs M z0 = some q ∧ p.1 = q.1 ∧ Rel p.2 K T X q.2) (h_share : ∀ (S : SS) (K : KS) (T : TS) (X : XS) (M : SS) (z0 : Int32) (z1 : Int32), Rel S K T X M → ∃ p q, cD_share S z0 z1 = some p ∧ rM_share M z0 z1 = some q ∧ p.1 = q.1 ∧ Rel p.2 K T X q.2) (h_paper : ∀ (S : SS) (K : KS) (T : TS) (X : XS) (M : SS) (z0 : Int32) (z1 : Int32) (z2 : Int32) (z3 : Int32) (z4 : Int32), Rel S K T X M → ∃ p q, cD_paper S z0 z1 z2 z3 z4 = some p ∧ rM_paper M z0 z1 z2 z3 z4 = some q ∧ p.1 = q.1 ∧ Rel p.2 K T X q.2) (h_as : ∀ (S : SS) (K : KS) (T : TS) (X : XS) (M : SS) (z0 : Int32) (z1 : Int32), Rel S K T X M → ∃ p q, cD_as S z0 z1 = some p ∧ rM_as M z0 z1 = some q ∧ p.1 = q.1 ∧ Rel p.2 K T X q.2) (h_word : ∀ (S : SS) (K : KS) (T : TS) (X : XS) (M : SS) (z0 : Int32) (z1 : Int32), Rel S K T X M → ∃ p q, cD_word S z0 z1 = some p ∧ rM_word M z0 z1 = some q ∧ p.1 = q.1 ∧ Rel p.2 K T X q.2) (h_pay : ∀ (S : SS) (K : KS) (T : TS) (X : XS) (M : SS) (z0 : Int32) (z1 : Int32), Rel S K T X M → ∃ p q, cD_pay S z0 z1 = some p ∧ rM_pay M z0 z1 = some q ∧ p.1 = q.1 ∧ Rel p.2 K T X q.2) (h_annul : ∀ (S : SS) (K : KS) (T : TS) (X : XS) (M : SS) (z0 : Int32), Rel S K T X M → ∃ p q, cD_annul S z0 = some p ∧ rM_annul M z0 = some q ∧ p.1 = q.1 ∧ Rel p.2 K T X q.2) (h_paperIs : ∀ (S : SS) (K : KS) (T : TS) (X : XS) (M : SS) (z0 : Int32) (z1 : Int32), Rel S K T X M → ∃ p q, cD_paperIs S z0 z1 = some p ∧ rM_paperIs M z0 z1 = some q ∧ p.1 = q.1 ∧ Rel p.2 K T X q.2) (h_shift : ∀ (S : SS) (K : KS) (T : TS) (X : XS) (M : SS) (z0 : Int32) (z1 : Int32), Rel S K T X M → ∃ p q, cD_shift S z0 z1 = some p ∧ rM_shift M z0 z1 = some q ∧ p.1 = q.1 ∧ Rel p.2 K T X q.2) (h_left : ∀ (S : SS) (K : KS) (T : TS) (X : XS) (M : SS) (z0 : Int32) (z1 : Int32), Rel S K T X M → ∃ p q, cD_left S z0 z1 = some p ∧ rM_left M z0 z1 = some q ∧ p.1 = q.1 ∧ Rel p.2 K T X q.2) (h_feed : ∀ (S : SS) (K : KS) (T : TS) (X : XS) (M : SS) (z0 : Int32) (z1 : Int64), Rel S K T X M → ∃ p q, cD_feed S z0 z1 = some p ∧ rM_feed M z0 z1 = some q ∧ p.1 = q.1 ∧ Rel p.2 K T X q.2) (h_text : ∀ (S : SS) (K : KS) (T : TS) (X : XS) (M : SS) (z0 : Int32), Rel S K T X M → ∃ p q, cD_text S T X z0 = some p ∧ rM_text M z0 = some q ∧ p.1 = q.1 ∧ Rel p.2.1 K p.2.2.1 p.2.2.2 q.2) (h_force : ∀ (S : SS) (K : KS) (T : TS) (X : XS) (M : SS) (z0 : Int32) (z1 : Int32) (z2 : Int32), Rel S K T X M → ∃ p q, cD_force S T z0 z1 z2 = some p ∧ rM_force M z0 z1 z2 = some q ∧ p.1 = q.1 ∧ Rel p.2.1 K p.2.2 X q.2) (h_law : ∀ (S : SS) (K : KS) (T : TS) (X : XS) (M : SS) (z0 : Int32) (z1 : Int32), Rel S K T X M → ∃ p q, cD_law S z0 z1 = some p ∧ rM_law M z0 z1 = some q ∧ p.1 = q.1 ∧ Rel p.2 K T X q.2) (h_falls : ∀ (S : SS) (K : KS) (T : TS) (X : XS) (M : SS) (z0 : Int32) (z1 : Int32) (z2 : Int32), Rel S K T X M → ∃ p q, cD_falls S T X z0 z1 z2 = some p ∧ rM_falls M z0 z1 z2 = some q ∧ p.1 = q.1 ∧ Rel p.2 K T X q.2) (h_truly : ∀ (S : SS) (K : KS) (T : TS) (X : XS) (M : SS) (z0 : Int32) (z1 : Int32) (z2 : Int32), Rel S K T X M → ∃ p q, cD_truly S T X z0 z1 z2 = some p ∧ rM_truly M z0 z1 z2 = some q ∧ p.1 = q.1 ∧ Rel p.2 K T X q.2) (h_back : ∀ (S : SS) (K : KS) (T : TS) (X : XS) (M : SS) (z0 : Int32) (z1 : Int32) (z2 : Int32), Rel S K T X M → ∃ p q, cD_back S T X z0 z1 z2 = some p ∧ rM_back M z0 z1 z2 = some q ∧ p.1 = q.1 ∧ Rel p.2 K T X q.2) (h_dress : ∀ (S : SS) (K : KS) (T : TS) (X : XS) (M : SS) (z0 : Int32) (z1 : Int32) (z2 : Int32), Rel S K T X M → ∃ p q, cD_dress S T X z0 z1 z2 = some p ∧ rM_dress M z0 z1 z2 = some q ∧ p.1 = q.1 ∧ Rel p.2 K T X q.2) (h_price : ∀ (S : SS) (K : KS) (T : TS) (X : XS) (M : SS) (z0 : Int32) (z1 : Int32), Rel S K T X M → ∃ p q, cD_price S z0 z1 = some p ∧ rM_price M z0 z1 = some q ∧ p.1 = q.1 ∧ Rel p.2 K T X q.2) (h_year : ∀ (S : SS) (K : KS) (T : TS) (X : XS) (M : SS) (z0 : Int32), Rel S K T X M → ∃ p q, cD_year S T X z0 = some p ∧ rM_year M z0 = some q ∧ p.1 = q.1 ∧ Rel p.2 K T X q.2) (h_years : ∀ (S : SS) (K : KS) (T : TS) (X : XS) (M : SS) (z0 : Int32), Rel S K T X M → ∃ p q, cD_years S T X z0 = some p ∧ rM_years M z0 = some q ∧ p.1 = q.1 ∧ Rel p.2 K T X q.2) (h_chain : ∀ (S : SS) (K : KS) (T : TS) (X : XS) (M : SS) (z0 : Int32), Rel S K T X M → ∃ p q, cD_chain S z0 = some p ∧ rM_chain M z0 = some q ∧ p.1 = q.1 ∧ Rel p.2 K T X q.2) (h_last : ∀ (S : SS) (K : KS) (T : TS) (X : XS) (M : SS) (z0 : Int32) (z1 : Int32) (z2 : Int32) (z3 : Int32), Rel S K T X M → ∃ p q, cD_last S K z0 z1 z2 z3 = some p ∧ rM_last M z0 z1 z2 z3 = some q ∧ p.1 = q.1 ∧ Rel p.2.1 p.2.2 T X q.2) (h_pays : ∀ (S : SS) (K : KS) (T : TS) (X : XS) (M : SS) (z0 : Int32) (z1 : Int32) (z2 : Int32) (z3 : Int32) (z4 : Int32), Rel S K T X M → ∃ p q, cD_pays S K z0 z1 z2 z3 z4 = some p ∧ rM_pays M z0 z1 z2 z3 z4 = some q ∧ p.1 = q.1 ∧ Rel p.2.1 p.2.2 T X q.2) (h_proves : ∀ (S : SS) (K : KS) (T : TS) (X : XS) (M : SS) (z0 : Int32) (z1 : Int32) (z2 : Int32) (z3 : Int32), Rel S K T X M → ∃ p q, cD_proves S z0 z1 z2 z3 = some p ∧ rM_proves M z0 z1 z2 z3 = some q ∧ p.1 = q.1 ∧ Rel p.2 K T X q.2) (h_sheet : ∀ (S : SS) (K : KS) (T : TS) (X : XS) (M : SS) (z0 : Int32) (z1 : Int32) (z2 : Int32), Rel S K T X M → ∃ p q, cD_sheet S z0 z1 z2 = some p ∧ rM_sheet M z0 z1 z2 = some q ∧ p.1 = q.1 ∧ Rel p.2 K T X q.2) (h_put : ∀ (S : SS) (K : KS) (T : TS) (X : XS) (M : SS) (z0 : Int32) (z1 : Int32) (z2 : Int32), Rel S K T X M → ∃ p q, cD_put S z0 z1 z2 = some p ∧ rM_put M z0 z1 z2 = some q ∧ p.1 = q.1 ∧ Rel p.2 K T X q.2) (h_copy : ∀ (S : SS) (K : KS) (T : TS) (X : XS) (M : SS) (z0 : Int32) (z1 : Int32) (z2 : Int32) (z3 : Int32) (z4 : Int32), Rel S K T X M → ∃ p q, cD_copy S z0 z1 z2 z3 z4 = some p ∧ rM_copy M z0 z1 z2 z3 z4 = some q ∧ p.1 = q.1 ∧ Rel p.2 K T X q.2) (h_image : ∀ (S : SS) (K : KS) (T : TS) (X : XS) (M : SS) , Rel S K T X M → ∃ p q, cD_image S T X = some p ∧ rM_image M = some q ∧ p.1 = q.1 ∧ Rel p.2.1 K p.2.2 X q.2) (h_restore : ∀ (S : SS) (K : KS) (T : TS) (X : XS) (M : SS) , Rel S K T X M → ∃ p q, cD_restore S T X = some p ∧ rM_restore M = some q ∧ p.1 = q.1 ∧ Rel p.2.1 K p.2.2 X q.2) (h_count : ∀ (S : SS) (K : KS) (T : TS) (X : XS) (M : SS) (z0 : Int32), Rel S K T X M → ∃ p q, cD_count S z0 = some p ∧ rM_count M z0 = some q ∧ p.1 = q.1 ∧ Rel p.2 K T X q.2) : ∀ (k : Nat) (S : SS) (K : KS) (T : TS) (X : XS) (M : SS) (bc bs n : Nat), Rel S K T X M → sl < 6 * (n + k) + 6 → 2 * k ≤ bc → 203 * k ≤ bs → 6 * n ≤ sl → aAt l G 2000 600000 7302250 276 18 [(0, .ref 0), (1, .ref 8), (2, .ref 154), (3, .int (nI (6 * n)))] [] bc bs (LH (old0 sl sx) S K T X M) (fun r _ => r = some (.int 1)) := by
  have hL2 : sl < 2 ^ 31 := by omega
  intro k
  induction k with
  | zero =>
    intro S K T X M bc bs n hR h1 h2 h3 h4
    exact lw_out hL2 (by omega) (by omega)
  | succ k ih =>
    intro S K T X M bc bs n hR h1 h2 h3 h4
    by_cases hn : sl < 6 * n + 6
    · exact lw_out hL2 hn (by omega)
    refine lw_in hL2 (by omega) (by omega) ?_
    by_cases ck0 : sx (6 * n + 0) &&& 63 = 0
    · obtain ⟨p, q, e1, e2, er, hR2⟩ := h_person S K T X M (sx (6 * n + 1)) (sx (6 * n + 2)) (sx (6 * n + 3)) (sx (6 * n + 4)) hR
      refine s_tabJ (off := 167) 0 200 ck0 f_276_33 (by decide) (by decide) (by decide) (by decide) ?_
      refine s_aload_n f_276_200 rfl ?_
      refine s_aload_n f_276_201 rfl ?_
      refine s_iload_n f_276_202 rfl ?_
      refine k_iconst (v := 1) f_276_203 (by decide) ?_
      refine s_iadd f_276_204 ?_
      refine O_scr (q := 6 * n + 1) f_276_205 (nI_add (6 * n) 1) (by omega) hL2 ?_
      refine s_aload_n f_276_206 rfl ?_
      refine s_iload_n f_276_207 rfl ?_
      refine k_iconst (v := 2) f_276_208 (by decide) ?_
      refine s_iadd f_276_209 ?_
      refine O_scr (q := 6 * n + 2) f_276_210 (nI_add (6 * n) 2) (by omega) hL2 ?_
      refine s_aload_n f_276_211 rfl ?_
      refine s_iload_n f_276_212 rfl ?_
      refine k_iconst (v := 3) f_276_213 (by decide) ?_
      refine s_iadd f_276_214 ?_
      refine O_scr (q := 6 * n + 3) f_276_215 (nI_add (6 * n) 3) (by omega) hL2 ?_
      refine s_aload_n f_276_216 rfl ?_
      refine s_iload_n f_276_217 rfl ?_
      refine k_iconst (v := 4) f_276_218 (by decide) ?_
      refine s_iadd f_276_219 ?_
      refine O_scr (q := 6 * n + 4) f_276_220 (nI_add (6 * n) 4) (by omega) hL2 ?_
      refine L_virt (As := [.int (sx (6 * n + 1)), .int (sx (6 * n + 2)), .int (sx (6 * n + 3)), .int (sx (6 * n + 4))]) f_276_221 ca_40_13 rfl rfl (obL (by decide)) (by decide) (Nat.le_of_ble_eq_true rfl) ?_
      refine t_cD_person e1 ?_
      refine s_aload_n f_276_224 rfl ?_
      refine s_aload_n f_276_225 rfl ?_
      refine s_iload_n f_276_226 rfl ?_
      refine k_iconst (v := 1) f_276_227 (by decide) ?_
      refine s_iadd f_276_228 ?_
      refine O_scr (q := 6 * n + 1) f_276_229 (nI_add (6 * n) 1) (by omega) hL2 ?_
      refine s_aload_n f_276_230 rfl ?_
      refine s_iload_n f_276_231 rfl ?_
      refine k_iconst (v := 2) f_276_232 (by decide) ?_
      refine s_iadd f_276_233 ?_
      refine O_scr (q := 6 * n + 2) f_276_234 (nI_add (6 * n) 2) (by omega) hL2 ?_
      refine s_aload_n f_276_235 rfl ?_
      refine s_iload_n f_276_236 rfl ?_
      refine k_iconst (v := 3) f_276_237 (by decide) ?_
      refine s_iadd f_276_238 ?_
      refine O_scr (q := 6 * n + 3) f_276_239 (nI_add (6 * n) 3) (by omega) hL2 ?_
      refine s_aload_n f_276_240 rfl ?_
      refine s_iload_n f_276_241 rfl ?_
      refine k_iconst (v := 4) f_276_242 (by decide) ?_
      refine s_iadd f_276_243 ?_
      refine O_scr (q := 6 * n + 4) f_276_244 (nI_add (6 * n) 4) (by omega) hL2 ?_
      refine L_virt (As := [.int (sx (6 * n + 1)), .int (sx (6 * n + 2)), .int (sx (6 * n + 3)), .int (sx (6 * n + 4))]) f_276_245 ca_40_17 rfl rfl (obL (by decide)) (by decide) (Nat.le_of_ble_eq_true rfl) ?_
      refine t_rM_person e2 ?_
      refine s_icmp_eq 1652 f_276_248 (by decide) (fun _ => ?_) (fun c => absurd er c)
      exact lw_next (ih _ _ _ _ _ (bc - 0) (bs - 0) (n + 1) hR2 (by omega) (by omega) (by omega) (by omega))
    by_cases ck1 : sx (6 * n + 0) &&& 63 = 1
    · obtain ⟨p, q, e1, e2, er, hR2⟩ := h_lives S K T X M (sx (6 * n + 1)) (!decide ((sx (6 * n + 2)) = 0)) (!decide ((sx (6 * n + 3)) = 0)) hR
      refine s_tabJ (off := 220) 1 253 ck1 f_276_33 (by decide) (by decide) (by decide) (by decide) ?_
      refine s_aload_n f_276_253 rfl ?_
      refine s_aload_n f_276_254 rfl ?_
      refine s_iload_n f_276_255 rfl ?_
      refine k_iconst (v := 1) f_276_256 (by decide) ?_
      refine s_iadd f_276_257 ?_
      refine O_scr (q := 6 * n + 1) f_276_258 (nI_add (6 * n) 1) (by omega) hL2 ?_
      refine s_aload_n f_276_259 rfl ?_
      refine s_iload_n f_276_260 rfl ?_
      refine k_iconst (v := 2) f_276_261 (by decide) ?_
      refine s_iadd f_276_262 ?_
      refine O_scr (q := 6 * n + 2) f_276_263 (nI_add (6 * n) 2) (by omega) hL2 ?_
      refine s_nz f_276_264 f_276_267 f_276_268 f_276_271 (by decide) (by decide) ?_
      refine s_aload_n f_276_272 rfl ?_
      refine s_iload_n f_276_273 rfl ?_
      refine k_iconst (v := 3) f_276_274 (by decide) ?_
      refine s_iadd f_276_275 ?_
      refine O_scr (q := 6 * n + 3) f_276_276 (nI_add (6 * n) 3) (by omega) hL2 ?_
      refine s_nz f_276_277 f_276_280 f_276_281 f_276_284 (by decide) (by decide) ?_
      refine L_virt (As := [.int (sx (6 * n + 1)), .int (b2i (!decide ((sx (6 * n + 2)) = 0))), .int (b2i (!decide ((sx (6 * n + 3)) = 0)))]) f_276_285 ca_40_18 rfl rfl (obL (by decide)) (by decide) (Nat.le_of_ble_eq_true rfl) ?_
      refine t_cD_lives e1 ?_
      refine s_aload_n f_276_288 rfl ?_
      refine s_aload_n f_276_289 rfl ?_
      refine s_iload_n f_276_290 rfl ?_
      refine k_iconst (v := 1) f_276_291 (by decide) ?_
      refine s_iadd f_276_292 ?_
      refine O_scr (q := 6 * n + 1) f_276_293 (nI_add (6 * n) 1) (by omega) hL2 ?_
      refine s_aload_n f_276_294 rfl ?_
      refine s_iload_n f_276_295 rfl ?_
      refine k_iconst (v := 2) f_276_296 (by decide) ?_
      refine s_iadd f_276_297 ?_
      refine O_scr (q := 6 * n + 2) f_276_298 (nI_add (6 * n) 2) (by omega) hL2 ?_
      refine s_nz f_276_299 f_276_302 f_276_303 f_276_306 (by decide) (by decide) ?_
      refine s_aload_n f_276_307 rfl ?_
      refine s_iload_n f_276_308 rfl ?_
      refine k_iconst (v := 3) f_276_309 (by decide) ?_
      refine s_iadd f_276_310 ?_
      refine O_scr (q := 6 * n + 3) f_276_311 (nI_add (6 * n) 3) (by omega) hL2 ?_
      refine s_nz f_276_312 f_276_315 f_276_316 f_276_319 (by decide) (by decide) ?_
      refine L_virt (As := [.int (sx (6 * n + 1)), .int (b2i (!decide ((sx (6 * n + 2)) = 0))), .int (b2i (!decide ((sx (6 * n + 3)) = 0)))]) f_276_320 ca_40_22 rfl rfl (obL (by decide)) (by decide) (Nat.le_of_ble_eq_true rfl) ?_
      refine t_rM_lives e2 ?_
      refine s_icmp_eq 1652 f_276_323 (by decide) (fun _ => ?_) (fun c => absurd er c)
      exact lw_next (ih _ _ _ _ _ (bc - 0) (bs - 0) (n + 1) hR2 (by omega) (by omega) (by omega) (by omega))
    by_cases ck2 : sx (6 * n + 0) &&& 63 = 2
    · obtain ⟨p, q, e1, e2, er, hR2⟩ := h_fear S K T X M (sx (6 * n + 1)) (sx (6 * n + 2)) hR
      refine s_tabJ (off := 295) 2 328 ck2 f_276_33 (by decide) (by decide) (by decide) (by decide) ?_
      refine s_aload_n f_276_328 rfl ?_
      refine s_aload_n f_276_329 rfl ?_
      refine s_iload_n f_276_330 rfl ?_
      refine k_iconst (v := 1) f_276_331 (by decide) ?_
      refine s_iadd f_276_332 ?_
      refine O_scr (q := 6 * n + 1) f_276_333 (nI_add (6 * n) 1) (by omega) hL2 ?_
      refine s_aload_n f_276_334 rfl ?_
      refine s_iload_n f_276_335 rfl ?_
      refine k_iconst (v := 2) f_276_336 (by decide) ?_
      refine s_iadd f_276_337 ?_
      refine O_scr (q := 6 * n + 2) f_276_338 (nI_add (6 * n) 2) (by omega) hL2 ?_
      refine L_virt (As := [.int (sx (6 * n + 1)), .int (sx (6 * n + 2))]) f_276_339 ca_40_23 rfl rfl (obL (by decide)) (by decide) (Nat.le_of_ble_eq_true rfl) ?_
      refine t_cD_fear e1 ?_
      refine s_aload_n f_276_342 rfl ?_
      refine s_aload_n f_276_343 rfl ?_
      refine s_iload_n f_276_344 rfl ?_
      refine k_iconst (v := 1) f_276_345 (by decide) ?_
      refine s_iadd f_276_346 ?_
      refine O_scr (q := 6 * n + 1) f_276_347 (nI_add (6 * n) 1) (by omega) hL2 ?_
      refine s_aload_n f_276_348 rfl ?_
      refine s_iload_n f_276_349 rfl ?_
      refine k_iconst (v := 2) f_276_350 (by decide) ?_
      refine s_iadd f_276_351 ?_
      refine O_scr (q := 6 * n + 2) f_276_352 (nI_add (6 * n) 2) (by omega) hL2 ?_
      refine L_virt (As := [.int (sx (6 * n + 1)), .int (sx (6 * n + 2))]) f_276_353 ca_40_27 rfl rfl (obL (by decide)) (by decide) (Nat.le_of_ble_eq_true rfl) ?_
      refine t_rM_fear e2 ?_
      refine s_icmp_eq 1652 f_276_356 (by decide) (fun _ => ?_) (fun c => absurd er c)
      exact lw_next (ih _ _ _ _ _ (bc - 0) (bs - 0) (n + 1) hR2 (by omega) (by omega) (by omega) (by omega))
    by_cases ck3 : sx (6 * n + 0) &&& 63 = 3
    · obtain ⟨p, q, e1, e2, er, hR2⟩ := h_die S K T X M (sx (6 * n + 1)) hR
      refine s_tabJ (off := 328) 3 361 ck3 f_276_33 (by decide) (by decide) (by decide) (by decide) ?_
      refine s_aload_n f_276_361 rfl ?_
      refine s_aload_n f_276_362 rfl ?_
      refine s_iload_n f_276_363 rfl ?_
      refine k_iconst (v := 1) f_276_364 (by decide) ?_
      refine s_iadd f_276_365 ?_
      refine O_scr (q := 6 * n + 1) f_276_366 (nI_add (6 * n) 1) (by omega) hL2 ?_
      refine L_virt (As := [.int (sx (6 * n + 1))]) f_276_367 ca_40_28 rfl rfl (obL (by decide)) (by decide) (Nat.le_of_ble_eq_true rfl) ?_
      refine t_cD_die e1 ?_
      refine s_aload_n f_276_370 rfl ?_
      refine s_aload_n f_276_371 rfl ?_
      refine s_iload_n f_276_372 rfl ?_
      refine k_iconst (v := 1) f_276_373 (by decide) ?_
      refine s_iadd f_276_374 ?_
      refine O_scr (q := 6 * n + 1) f_276_375 (nI_add (6 * n) 1) (by omega) hL2 ?_
      refine L_virt (As := [.int (sx (6 * n + 1))]) f_276_376 ca_40_32 rfl rfl (obL (by decide)) (by decide) (Nat.le_of_ble_eq_true rfl) ?_
      refine t_rM_die e2 ?_
      refine s_icmp_eq 1652 f_276_379 (by decide) (fun _ => ?_) (fun c => absurd er c)
      exact lw_next (ih _ _ _ _ _ (bc - 0) (bs - 0) (n + 1) hR2 (by omega) (by omega) (by omega) (by omega))
    by_cases ck4 : sx (6 * n + 0) &&& 63 = 4
    · obtain ⟨p, q, e1, e2, er, hR2⟩ := h_personIs S K T X M (sx (6 * n + 1)) (sx (6 * n + 2)) hR
      refine s_tabJ (off := 351) 4 384 ck4 f_276_33 (by decide) (by decide) (by decide) (by decide) ?_
      refine s_aload_n f_276_384 rfl ?_
      refine s_aload_n f_276_385 rfl ?_
      refine s_iload_n f_276_386 rfl ?_
      refine k_iconst (v := 1) f_276_387 (by decide) ?_
      refine s_iadd f_276_388 ?_
      refine O_scr (q := 6 * n + 1) f_276_389 (nI_add (6 * n) 1) (by omega) hL2 ?_
      refine s_aload_n f_276_390 rfl ?_
      refine s_iload_n f_276_391 rfl ?_
      refine k_iconst (v := 2) f_276_392 (by decide) ?_
      refine s_iadd f_276_393 ?_
      refine O_scr (q := 6 * n + 2) f_276_394 (nI_add (6 * n) 2) (by omega) hL2 ?_
      refine L_virt (As := [.int (sx (6 * n + 1)), .int (sx (6 * n + 2))]) f_276_395 ca_40_33 rfl rfl (obL (by decide)) (by decide) (Nat.le_of_ble_eq_true rfl) ?_
      refine t_cD_personIs e1 ?_
      refine s_aload_n f_276_398 rfl ?_
      refine s_aload_n f_276_399 rfl ?_
      refine s_iload_n f_276_400 rfl ?_
      refine k_iconst (v := 1) f_276_401 (by decide) ?_
      refine s_iadd f_276_402 ?_
      refine O_scr (q := 6 * n + 1) f_276_403 (nI_add (6 * n) 1) (by omega) hL2 ?_
      refine s_aload_n f_276_404 rfl ?_
      refine s_iload_n f_276_405 rfl ?_
      refine k_iconst (v := 2) f_276_406 (by decide) ?_
      refine s_iadd f_276_407 ?_
      refine O_scr (q := 6 * n + 2) f_276_408 (nI_add (6 * n) 2) (by omega) hL2 ?_
      refine L_virt (As := [.int (sx (6 * n + 1)), .int (sx (6 * n + 2))]) f_276_409 ca_40_36 rfl rfl (obL (by decide)) (by decide) (Nat.le_of_ble_eq_true rfl) ?_
      refine t_rM_personIs e2 ?_
      refine s_icmp_eq 1652 f_276_412 (by decide) (fun _ => ?_) (fun c => absurd er c)
      exact lw_next (ih _ _ _ _ _ (bc - 0) (bs - 0) (n + 1) hR2 (by omega) (by omega) (by omega) (by omega))
    by_cases ck5 : sx (6 * n + 0) &&& 63 = 5
    · obtain ⟨p, q, e1, e2, er, hR2⟩ := h_field S K T X M (sx (6 * n + 1)) (sx (6 * n + 2)) (!decide ((sx (6 * n + 3)) = 0)) hR
      refine s_tabJ (off := 384) 5 417 ck5 f_276_33 (by decide) (by decide) (by decide) (by decide) ?_
      refine s_aload_n f_276_417 rfl ?_
      refine s_aload_n f_276_418 rfl ?_
      refine s_iload_n f_276_419 rfl ?_
      refine k_iconst (v := 1) f_276_420 (by decide) ?_
      refine s_iadd f_276_421 ?_
      refine O_scr (q := 6 * n + 1) f_276_422 (nI_add (6 * n) 1) (by omega) hL2 ?_
      refine s_aload_n f_276_423 rfl ?_
      refine s_iload_n f_276_424 rfl ?_
      refine k_iconst (v := 2) f_276_425 (by decide) ?_
      refine s_iadd f_276_426 ?_
      refine O_scr (q := 6 * n + 2) f_276_427 (nI_add (6 * n) 2) (by omega) hL2 ?_
      refine s_aload_n f_276_428 rfl ?_
      refine s_iload_n f_276_429 rfl ?_
      refine k_iconst (v := 3) f_276_430 (by decide) ?_
      refine s_iadd f_276_431 ?_
      refine O_scr (q := 6 * n + 3) f_276_432 (nI_add (6 * n) 3) (by omega) hL2 ?_
      refine s_nz f_276_433 f_276_436 f_276_437 f_276_440 (by decide) (by decide) ?_
      refine L_virt (As := [.int (sx (6 * n + 1)), .int (sx (6 * n + 2)), .int (b2i (!decide ((sx (6 * n + 3)) = 0)))]) f_276_441 ca_40_37 rfl rfl (obL (by decide)) (by decide) (Nat.le_of_ble_eq_true rfl) ?_
      refine t_cD_field e1 ?_
      refine s_aload_n f_276_444 rfl ?_
      refine s_aload_n f_276_445 rfl ?_
      refine s_iload_n f_276_446 rfl ?_
      refine k_iconst (v := 1) f_276_447 (by decide) ?_
      refine s_iadd f_276_448 ?_
      refine O_scr (q := 6 * n + 1) f_276_449 (nI_add (6 * n) 1) (by omega) hL2 ?_
      refine s_aload_n f_276_450 rfl ?_
      refine s_iload_n f_276_451 rfl ?_
      refine k_iconst (v := 2) f_276_452 (by decide) ?_
      refine s_iadd f_276_453 ?_
      refine O_scr (q := 6 * n + 2) f_276_454 (nI_add (6 * n) 2) (by omega) hL2 ?_
      refine s_aload_n f_276_455 rfl ?_
      refine s_iload_n f_276_456 rfl ?_
      refine k_iconst (v := 3) f_276_457 (by decide) ?_
      refine s_iadd f_276_458 ?_
      refine O_scr (q := 6 * n + 3) f_276_459 (nI_add (6 * n) 3) (by omega) hL2 ?_
      refine s_nz f_276_460 f_276_463 f_276_464 f_276_467 (by decide) (by decide) ?_
      refine L_virt (As := [.int (sx (6 * n + 1)), .int (sx (6 * n + 2)), .int (b2i (!decide ((sx (6 * n + 3)) = 0)))]) f_276_468 ca_40_41 rfl rfl (obL (by decide)) (by decide) (Nat.le_of_ble_eq_true rfl) ?_
      refine t_rM_field e2 ?_
      refine s_icmp_eq 1652 f_276_471 (by decide) (fun _ => ?_) (fun c => absurd er c)
      exact lw_next (ih _ _ _ _ _ (bc - 0) (bs - 0) (n + 1) hR2 (by omega) (by omega) (by omega) (by omega))
    by_cases ck6 : sx (6 * n + 0) &&& 63 = 6
    · obtain ⟨p, q, e1, e2, er, hR2⟩ := h_fieldIs S K T X M (sx (6 * n + 1)) (sx (6 * n + 2)) hR
      refine s_tabJ (off := 443) 6 476 ck6 f_276_33 (by decide) (by decide) (by decide) (by decide) ?_
      refine s_aload_n f_276_476 rfl ?_
      refine s_aload_n f_276_477 rfl ?_
      refine s_iload_n f_276_478 rfl ?_
      refine k_iconst (v := 1) f_276_479 (by decide) ?_
      refine s_iadd f_276_480 ?_
      refine O_scr (q := 6 * n + 1) f_276_481 (nI_add (6 * n) 1) (by omega) hL2 ?_
      refine s_aload_n f_276_482 rfl ?_
      refine s_iload_n f_276_483 rfl ?_
      refine k_iconst (v := 2) f_276_484 (by decide) ?_
      refine s_iadd f_276_485 ?_
      refine O_scr (q := 6 * n + 2) f_276_486 (nI_add (6 * n) 2) (by omega) hL2 ?_
      refine L_virt (As := [.int (sx (6 * n + 1)), .int (sx (6 * n + 2))]) f_276_487 ca_40_42 rfl rfl (obL (by decide)) (by decide) (Nat.le_of_ble_eq_true rfl) ?_
      refine t_cD_fieldIs e1 ?_
      refine s_aload_n f_276_490 rfl ?_
      refine s_aload_n f_276_491 rfl ?_
      refine s_iload_n f_276_492 rfl ?_
      refine k_iconst (v := 1) f_276_493 (by decide) ?_
      refine s_iadd f_276_494 ?_
      refine O_scr (q := 6 * n + 1) f_276_495 (nI_add (6 * n) 1) (by omega) hL2 ?_
      refine s_aload_n f_276_496 rfl ?_
      refine s_iload_n f_276_497 rfl ?_
      refine k_iconst (v := 2) f_276_498 (by decide) ?_
      refine s_iadd f_276_499 ?_
      refine O_scr (q := 6 * n + 2) f_276_500 (nI_add (6 * n) 2) (by omega) hL2 ?_
      refine L_virt (As := [.int (sx (6 * n + 1)), .int (sx (6 * n + 2))]) f_276_501 ca_40_45 rfl rfl (obL (by decide)) (by decide) (Nat.le_of_ble_eq_true rfl) ?_
      refine t_rM_fieldIs e2 ?_
      refine s_icmp_eq 1652 f_276_504 (by decide) (fun _ => ?_) (fun c => absurd er c)
      exact lw_next (ih _ _ _ _ _ (bc - 0) (bs - 0) (n + 1) hR2 (by omega) (by omega) (by omega) (by omega))
    by_cases ck7 : sx (6 * n + 0) &&& 63 = 7
    · obtain ⟨p, q, e1, e2, er, hR2⟩ := h_heirs S K T X M (sx (6 * n + 1)) hR
      refine s_tabJ (off := 476) 7 509 ck7 f_276_33 (by decide) (by decide) (by decide) (by decide) ?_
      refine s_aload_n f_276_509 rfl ?_
      refine s_aload_n f_276_510 rfl ?_
      refine s_iload_n f_276_511 rfl ?_
      refine k_iconst (v := 1) f_276_512 (by decide) ?_
      refine s_iadd f_276_513 ?_
      refine O_scr (q := 6 * n + 1) f_276_514 (nI_add (6 * n) 1) (by omega) hL2 ?_
      refine L_virt (As := [.int (sx (6 * n + 1))]) f_276_515 ca_40_46 rfl rfl (obL (by decide)) (by decide) (Nat.le_of_ble_eq_true rfl) ?_
      refine t_cD_heirs e1 ?_
      refine s_aload_n f_276_518 rfl ?_
      refine s_aload_n f_276_519 rfl ?_
      refine s_iload_n f_276_520 rfl ?_
      refine k_iconst (v := 1) f_276_521 (by decide) ?_
      refine s_iadd f_276_522 ?_
      refine O_scr (q := 6 * n + 1) f_276_523 (nI_add (6 * n) 1) (by omega) hL2 ?_
      refine L_virt (As := [.int (sx (6 * n + 1))]) f_276_524 ca_40_49 rfl rfl (obL (by decide)) (by decide) (Nat.le_of_ble_eq_true rfl) ?_
      refine t_rM_heirs e2 ?_
      refine s_icmp_eq 1652 f_276_527 (by decide) (fun _ => ?_) (fun c => absurd er c)
      exact lw_next (ih _ _ _ _ _ (bc - 0) (bs - 0) (n + 1) hR2 (by omega) (by omega) (by omega) (by omega))
    by_cases ck8 : sx (6 * n + 0) &&& 63 = 8
    · obtain ⟨p, q, e1, e2, er, hR2⟩ := h_share S K T X M (sx (6 * n + 1)) (sx (6 * n + 2)) hR
      refine s_tabJ (off := 499) 8 532 ck8 f_276_33 (by decide) (by decide) (by decide) (by decide) ?_
      refine s_aload_n f_276_532 rfl ?_
      refine s_aload_n f_276_533 rfl ?_
      refine s_iload_n f_276_534 rfl ?_
      refine k_iconst (v := 1) f_276_535 (by decide) ?_
      refine s_iadd f_276_536 ?_
      refine O_scr (q := 6 * n + 1) f_276_537 (nI_add (6 * n) 1) (by omega) hL2 ?_
      refine s_aload_n f_276_538 rfl ?_
      refine s_iload_n f_276_539 rfl ?_
      refine k_iconst (v := 2) f_276_540 (by decide) ?_
      refine s_iadd f_276_541 ?_
      refine O_scr (q := 6 * n + 2) f_276_542 (nI_add (6 * n) 2) (by omega) hL2 ?_
      refine L_virt (As := [.int (sx (6 * n + 1)), .int (sx (6 * n + 2))]) f_276_543 ca_40_50 rfl rfl (obL (by decide)) (by decide) (Nat.le_of_ble_eq_true rfl) ?_
      refine t_cD_share e1 ?_
      refine s_aload_n f_276_546 rfl ?_
      refine s_aload_n f_276_547 rfl ?_
      refine s_iload_n f_276_548 rfl ?_
      refine k_iconst (v := 1) f_276_549 (by decide) ?_
      refine s_iadd f_276_550 ?_
      refine O_scr (q := 6 * n + 1) f_276_551 (nI_add (6 * n) 1) (by omega) hL2 ?_
      refine s_aload_n f_276_552 rfl ?_
      refine s_iload_n f_276_553 rfl ?_
      refine k_iconst (v := 2) f_276_554 (by decide) ?_
      refine s_iadd f_276_555 ?_
      refine O_scr (q := 6 * n + 2) f_276_556 (nI_add (6 * n) 2) (by omega) hL2 ?_
      refine L_virt (As := [.int (sx (6 * n + 1)), .int (sx (6 * n + 2))]) f_276_557 ca_40_53 rfl rfl (obL (by decide)) (by decide) (Nat.le_of_ble_eq_true rfl) ?_
      refine t_rM_share e2 ?_
      refine s_icmp_eq 1652 f_276_560 (by decide) (fun _ => ?_) (fun c => absurd er c)
      exact lw_next (ih _ _ _ _ _ (bc - 0) (bs - 0) (n + 1) hR2 (by omega) (by omega) (by omega) (by omega))
    by_cases ck9 : sx (6 * n + 0) &&& 63 = 9
    · obtain ⟨p, q, e1, e2, er, hR2⟩ := h_paper S K T X M (sx (6 * n + 1)) (sx (6 * n + 2)) (sx (6 * n + 3)) (sx (6 * n + 4)) (sx (6 * n + 5)) hR
      refine s_tabJ (off := 532) 9 565 ck9 f_276_33 (by decide) (by decide) (by decide) (by decide) ?_
      refine s_aload_n f_276_565 rfl ?_
      refine s_aload_n f_276_566 rfl ?_
      refine s_iload_n f_276_567 rfl ?_
      refine k_iconst (v := 1) f_276_568 (by decide) ?_
      refine s_iadd f_276_569 ?_
      refine O_scr (q := 6 * n + 1) f_276_570 (nI_add (6 * n) 1) (by omega) hL2 ?_
      refine s_aload_n f_276_571 rfl ?_
      refine s_iload_n f_276_572 rfl ?_
      refine k_iconst (v := 2) f_276_573 (by decide) ?_
      refine s_iadd f_276_574 ?_
      refine O_scr (q := 6 * n + 2) f_276_575 (nI_add (6 * n) 2) (by omega) hL2 ?_
      refine s_aload_n f_276_576 rfl ?_
      refine s_iload_n f_276_577 rfl ?_
      refine k_iconst (v := 3) f_276_578 (by decide) ?_
      refine s_iadd f_276_579 ?_
      refine O_scr (q := 6 * n + 3) f_276_580 (nI_add (6 * n) 3) (by omega) hL2 ?_
      refine s_aload_n f_276_581 rfl ?_
      refine s_iload_n f_276_582 rfl ?_
      refine k_iconst (v := 4) f_276_583 (by decide) ?_
      refine s_iadd f_276_584 ?_
      refine O_scr (q := 6 * n + 4) f_276_585 (nI_add (6 * n) 4) (by omega) hL2 ?_
      refine s_aload_n f_276_586 rfl ?_
      refine s_iload_n f_276_587 rfl ?_
      refine k_iconst (v := 5) f_276_588 (by decide) ?_
      refine s_iadd f_276_589 ?_
      refine O_scr (q := 6 * n + 5) f_276_590 (nI_add (6 * n) 5) (by omega) hL2 ?_
      refine L_virt (As := [.int (sx (6 * n + 1)), .int (sx (6 * n + 2)), .int (sx (6 * n + 3)), .int (sx (6 * n + 4)), .int (sx (6 * n + 5))]) f_276_591 ca_40_54 rfl rfl (obL (by decide)) (by decide) (Nat.le_of_ble_eq_true rfl) ?_
      refine t_cD_paper e1 ?_
      refine s_aload_n f_276_594 rfl ?_
      refine s_aload_n f_276_595 rfl ?_
      refine s_iload_n f_276_596 rfl ?_
      refine k_iconst (v := 1) f_276_597 (by decide) ?_
      refine s_iadd f_276_598 ?_
      refine O_scr (q := 6 * n + 1) f_276_599 (nI_add (6 * n) 1) (by omega) hL2 ?_
      refine s_aload_n f_276_600 rfl ?_
      refine s_iload_n f_276_601 rfl ?_
      refine k_iconst (v := 2) f_276_602 (by decide) ?_
      refine s_iadd f_276_603 ?_
      refine O_scr (q := 6 * n + 2) f_276_604 (nI_add (6 * n) 2) (by omega) hL2 ?_
      refine s_aload_n f_276_605 rfl ?_
      refine s_iload_n f_276_606 rfl ?_
      refine k_iconst (v := 3) f_276_607 (by decide) ?_
      refine s_iadd f_276_608 ?_
      refine O_scr (q := 6 * n + 3) f_276_609 (nI_add (6 * n) 3) (by omega) hL2 ?_
      refine s_aload_n f_276_610 rfl ?_
      refine s_iload_n f_276_611 rfl ?_
      refine k_iconst (v := 4) f_276_612 (by decide) ?_
      refine s_iadd f_276_613 ?_
      refine O_scr (q := 6 * n + 4) f_276_614 (nI_add (6 * n) 4) (by omega) hL2 ?_
      refine s_aload_n f_276_615 rfl ?_
      refine s_iload_n f_276_616 rfl ?_
      refine k_iconst (v := 5) f_276_617 (by decide) ?_
      refine s_iadd f_276_618 ?_
      refine O_scr (q := 6 * n + 5) f_276_619 (nI_add (6 * n) 5) (by omega) hL2 ?_
      refine L_virt (As := [.int (sx (6 * n + 1)), .int (sx (6 * n + 2)), .int (sx (6 * n + 3)), .int (sx (6 * n + 4)), .int (sx (6 * n + 5))]) f_276_620 ca_40_58 rfl rfl (obL (by decide)) (by decide) (Nat.le_of_ble_eq_true rfl) ?_
      refine t_rM_paper e2 ?_
      refine s_icmp_eq 1652 f_276_623 (by decide) (fun _ => ?_) (fun c => absurd er c)
      exact lw_next (ih _ _ _ _ _ (bc - 0) (bs - 0) (n + 1) hR2 (by omega) (by omega) (by omega) (by omega))
    by_cases ck10 : sx (6 * n + 0) &&& 63 = 10
    · obtain ⟨p, q, e1, e2, er, hR2⟩ := h_as S K T X M (sx (6 * n + 1)) (sx (6 * n + 2)) hR
      refine s_tabJ (off := 595) 10 628 ck10 f_276_33 (by decide) (by decide) (by decide) (by decide) ?_
      refine s_aload_n f_276_628 rfl ?_
      refine s_aload_n f_276_629 rfl ?_
      refine s_iload_n f_276_630 rfl ?_
      refine k_iconst (v := 1) f_276_631 (by decide) ?_
      refine s_iadd f_276_632 ?_
      refine O_scr (q := 6 * n + 1) f_276_633 (nI_add (6 * n) 1) (by omega) hL2 ?_
      refine s_aload_n f_276_634 rfl ?_
      refine s_iload_n f_276_635 rfl ?_
      refine k_iconst (v := 2) f_276_636 (by decide) ?_
      refine s_iadd f_276_637 ?_
      refine O_scr (q := 6 * n + 2) f_276_638 (nI_add (6 * n) 2) (by omega) hL2 ?_
      refine L_virt (As := [.int (sx (6 * n + 1)), .int (sx (6 * n + 2))]) f_276_639 ca_40_59 rfl rfl (obL (by decide)) (by decide) (Nat.le_of_ble_eq_true rfl) ?_
      refine t_cD_as e1 ?_
      refine s_aload_n f_276_642 rfl ?_
      refine s_aload_n f_276_643 rfl ?_
      refine s_iload_n f_276_644 rfl ?_
      refine k_iconst (v := 1) f_276_645 (by decide) ?_
      refine s_iadd f_276_646 ?_
      refine O_scr (q := 6 * n + 1) f_276_647 (nI_add (6 * n) 1) (by omega) hL2 ?_
      refine s_aload_n f_276_648 rfl ?_
      refine s_iload_n f_276_649 rfl ?_
      refine k_iconst (v := 2) f_276_650 (by decide) ?_
      refine s_iadd f_276_651 ?_
      refine O_scr (q := 6 * n + 2) f_276_652 (nI_add (6 * n) 2) (by omega) hL2 ?_
      refine L_virt (As := [.int (sx (6 * n + 1)), .int (sx (6 * n + 2))]) f_276_653 ca_40_62 rfl rfl (obL (by decide)) (by decide) (Nat.le_of_ble_eq_true rfl) ?_
      refine t_rM_as e2 ?_
      refine s_icmp_eq 1652 f_276_656 (by decide) (fun _ => ?_) (fun c => absurd er c)
      exact lw_next (ih _ _ _ _ _ (bc - 0) (bs - 0) (n + 1) hR2 (by omega) (by omega) (by omega) (by omega))
    by_cases ck11 : sx (6 * n + 0) &&& 63 = 11
    · obtain ⟨p, q, e1, e2, er, hR2⟩ := h_word S K T X M (sx (6 * n + 1)) (sx (6 * n + 2)) hR
      refine s_tabJ (off := 628) 11 661 ck11 f_276_33 (by decide) (by decide) (by decide) (by decide) ?_
      refine s_aload_n f_276_661 rfl ?_
      refine s_aload_n f_276_662 rfl ?_
      refine s_iload_n f_276_663 rfl ?_
      refine k_iconst (v := 1) f_276_664 (by decide) ?_
      refine s_iadd f_276_665 ?_
      refine O_scr (q := 6 * n + 1) f_276_666 (nI_add (6 * n) 1) (by omega) hL2 ?_
      refine s_aload_n f_276_667 rfl ?_
      refine s_iload_n f_276_668 rfl ?_
      refine k_iconst (v := 2) f_276_669 (by decide) ?_
      refine s_iadd f_276_670 ?_
      refine O_scr (q := 6 * n + 2) f_276_671 (nI_add (6 * n) 2) (by omega) hL2 ?_
      refine L_virt (As := [.int (sx (6 * n + 1)), .int (sx (6 * n + 2))]) f_276_672 ca_40_63 rfl rfl (obL (by decide)) (by decide) (Nat.le_of_ble_eq_true rfl) ?_
      refine t_cD_word e1 ?_
      refine s_aload_n f_276_675 rfl ?_
      refine s_aload_n f_276_676 rfl ?_
      refine s_iload_n f_276_677 rfl ?_
      refine k_iconst (v := 1) f_276_678 (by decide) ?_
      refine s_iadd f_276_679 ?_
      refine O_scr (q := 6 * n + 1) f_276_680 (nI_add (6 * n) 1) (by omega) hL2 ?_
      refine s_aload_n f_276_681 rfl ?_
      refine s_iload_n f_276_682 rfl ?_
      refine k_iconst (v := 2) f_276_683 (by decide) ?_
      refine s_iadd f_276_684 ?_
      refine O_scr (q := 6 * n + 2) f_276_685 (nI_add (6 * n) 2) (by omega) hL2 ?_
      refine L_virt (As := [.int (sx (6 * n + 1)), .int (sx (6 * n + 2))]) f_276_686 ca_40_66 rfl rfl (obL (by decide)) (by decide) (Nat.le_of_ble_eq_true rfl) ?_
      refine t_rM_word e2 ?_
      refine s_icmp_eq 1652 f_276_689 (by decide) (fun _ => ?_) (fun c => absurd er c)
      exact lw_next (ih _ _ _ _ _ (bc - 0) (bs - 0) (n + 1) hR2 (by omega) (by omega) (by omega) (by omega))
    by_cases ck12 : sx (6 * n + 0) &&& 63 = 12
    · obtain ⟨p, q, e1, e2, er, hR2⟩ := h_pay S K T X M (sx (6 * n + 1)) (sx (6 * n + 2)) hR
      refine s_tabJ (off := 661) 12 694 ck12 f_276_33 (by decide) (by decide) (by decide) (by decide) ?_
      refine s_aload_n f_276_694 rfl ?_
      refine s_aload_n f_276_695 rfl ?_
      refine s_iload_n f_276_696 rfl ?_
      refine k_iconst (v := 1) f_276_697 (by decide) ?_
      refine s_iadd f_276_698 ?_
      refine O_scr (q := 6 * n + 1) f_276_699 (nI_add (6 * n) 1) (by omega) hL2 ?_
      refine s_aload_n f_276_700 rfl ?_
      refine s_iload_n f_276_701 rfl ?_
      refine k_iconst (v := 2) f_276_702 (by decide) ?_
      refine s_iadd f_276_703 ?_
      refine O_scr (q := 6 * n + 2) f_276_704 (nI_add (6 * n) 2) (by omega) hL2 ?_
      refine L_virt (As := [.int (sx (6 * n + 1)), .int (sx (6 * n + 2))]) f_276_705 ca_40_67 rfl rfl (obL (by decide)) (by decide) (Nat.le_of_ble_eq_true rfl) ?_
      refine t_cD_pay e1 ?_
      refine s_aload_n f_276_708 rfl ?_
      refine s_aload_n f_276_709 rfl ?_
      refine s_iload_n f_276_710 rfl ?_
      refine k_iconst (v := 1) f_276_711 (by decide) ?_
      refine s_iadd f_276_712 ?_
      refine O_scr (q := 6 * n + 1) f_276_713 (nI_add (6 * n) 1) (by omega) hL2 ?_
      refine s_aload_n f_276_714 rfl ?_
      refine s_iload_n f_276_715 rfl ?_
      refine k_iconst (v := 2) f_276_716 (by decide) ?_
      refine s_iadd f_276_717 ?_
      refine O_scr (q := 6 * n + 2) f_276_718 (nI_add (6 * n) 2) (by omega) hL2 ?_
      refine L_virt (As := [.int (sx (6 * n + 1)), .int (sx (6 * n + 2))]) f_276_719 ca_40_70 rfl rfl (obL (by decide)) (by decide) (Nat.le_of_ble_eq_true rfl) ?_
      refine t_rM_pay e2 ?_
      refine s_icmp_eq 1652 f_276_722 (by decide) (fun _ => ?_) (fun c => absurd er c)
      exact lw_next (ih _ _ _ _ _ (bc - 0) (bs - 0) (n + 1) hR2 (by omega) (by omega) (by omega) (by omega))
    by_cases ck13 : sx (6 * n + 0) &&& 63 = 13
    · obtain ⟨p, q, e1, e2, er, hR2⟩ := h_annul S K T X M (sx (6 * n + 1)) hR
      refine s_tabJ (off := 694) 13 727 ck13 f_276_33 (by decide) (by decide) (by decide) (by decide) ?_
      refine s_aload_n f_276_727 rfl ?_
      refine s_aload_n f_276_728 rfl ?_
      refine s_iload_n f_276_729 rfl ?_
      refine k_iconst (v := 1) f_276_730 (by decide) ?_
      refine s_iadd f_276_731 ?_
      refine O_scr (q := 6 * n + 1) f_276_732 (nI_add (6 * n) 1) (by omega) hL2 ?_
      refine L_virt (As := [.int (sx (6 * n + 1))]) f_276_733 ca_40_71 rfl rfl (obL (by decide)) (by decide) (Nat.le_of_ble_eq_true rfl) ?_
      refine t_cD_annul e1 ?_
      refine s_aload_n f_276_736 rfl ?_
      refine s_aload_n f_276_737 rfl ?_
      refine s_iload_n f_276_738 rfl ?_
      refine k_iconst (v := 1) f_276_739 (by decide) ?_
      refine s_iadd f_276_740 ?_
      refine O_scr (q := 6 * n + 1) f_276_741 (nI_add (6 * n) 1) (by omega) hL2 ?_
      refine L_virt (As := [.int (sx (6 * n + 1))]) f_276_742 ca_40_74 rfl rfl (obL (by decide)) (by decide) (Nat.le_of_ble_eq_true rfl) ?_
      refine t_rM_annul e2 ?_
      refine s_icmp_eq 1652 f_276_745 (by decide) (fun _ => ?_) (fun c => absurd er c)
      exact lw_next (ih _ _ _ _ _ (bc - 0) (bs - 0) (n + 1) hR2 (by omega) (by omega) (by omega) (by omega))
    by_cases ck14 : sx (6 * n + 0) &&& 63 = 14
    · obtain ⟨p, q, e1, e2, er, hR2⟩ := h_paperIs S K T X M (sx (6 * n + 1)) (sx (6 * n + 2)) hR
      refine s_tabJ (off := 717) 14 750 ck14 f_276_33 (by decide) (by decide) (by decide) (by decide) ?_
      refine s_aload_n f_276_750 rfl ?_
      refine s_aload_n f_276_751 rfl ?_
      refine s_iload_n f_276_752 rfl ?_
      refine k_iconst (v := 1) f_276_753 (by decide) ?_
      refine s_iadd f_276_754 ?_
      refine O_scr (q := 6 * n + 1) f_276_755 (nI_add (6 * n) 1) (by omega) hL2 ?_
      refine s_aload_n f_276_756 rfl ?_
      refine s_iload_n f_276_757 rfl ?_
      refine k_iconst (v := 2) f_276_758 (by decide) ?_
      refine s_iadd f_276_759 ?_
      refine O_scr (q := 6 * n + 2) f_276_760 (nI_add (6 * n) 2) (by omega) hL2 ?_
      refine L_virt (As := [.int (sx (6 * n + 1)), .int (sx (6 * n + 2))]) f_276_761 ca_40_75 rfl rfl (obL (by decide)) (by decide) (Nat.le_of_ble_eq_true rfl) ?_
      refine t_cD_paperIs e1 ?_
      refine s_aload_n f_276_764 rfl ?_
      refine s_aload_n f_276_765 rfl ?_
      refine s_iload_n f_276_766 rfl ?_
      refine k_iconst (v := 1) f_276_767 (by decide) ?_
      refine s_iadd f_276_768 ?_
      refine O_scr (q := 6 * n + 1) f_276_769 (nI_add (6 * n) 1) (by omega) hL2 ?_
      refine s_aload_n f_276_770 rfl ?_
      refine s_iload_n f_276_771 rfl ?_
      refine k_iconst (v := 2) f_276_772 (by decide) ?_
      refine s_iadd f_276_773 ?_
      refine O_scr (q := 6 * n + 2) f_276_774 (nI_add (6 * n) 2) (by omega) hL2 ?_
      refine L_virt (As := [.int (sx (6 * n + 1)), .int (sx (6 * n + 2))]) f_276_775 ca_40_78 rfl rfl (obL (by decide)) (by decide) (Nat.le_of_ble_eq_true rfl) ?_
      refine t_rM_paperIs e2 ?_
      refine s_icmp_eq 1652 f_276_778 (by decide) (fun _ => ?_) (fun c => absurd er c)
      exact lw_next (ih _ _ _ _ _ (bc - 0) (bs - 0) (n + 1) hR2 (by omega) (by omega) (by omega) (by omega))
    by_cases ck15 : sx (6 * n + 0) &&& 63 = 15
    · obtain ⟨p, q, e1, e2, er, hR2⟩ := h_shift S K T X M (sx (6 * n + 1)) (sx (6 * n + 2)) hR
      refine s_tabJ (off := 750) 15 783 ck15 f_276_33 (by decide) (by decide) (by decide) (by decide) ?_
      refine s_aload_n f_276_783 rfl ?_
      refine s_aload_n f_276_784 rfl ?_
      refine s_iload_n f_276_785 rfl ?_
      refine k_iconst (v := 1) f_276_786 (by decide) ?_
      refine s_iadd f_276_787 ?_
      refine O_scr (q := 6 * n + 1) f_276_788 (nI_add (6 * n) 1) (by omega) hL2 ?_
      refine s_aload_n f_276_789 rfl ?_
      refine s_iload_n f_276_790 rfl ?_
      refine k_iconst (v := 2) f_276_791 (by decide) ?_
      refine s_iadd f_276_792 ?_
      refine O_scr (q := 6 * n + 2) f_276_793 (nI_add (6 * n) 2) (by omega) hL2 ?_
      refine L_virt (As := [.int (sx (6 * n + 1)), .int (sx (6 * n + 2))]) f_276_794 ca_40_79 rfl rfl (obL (by decide)) (by decide) (Nat.le_of_ble_eq_true rfl) ?_
      refine t_cD_shift e1 ?_
      refine s_aload_n f_276_797 rfl ?_
      refine s_aload_n f_276_798 rfl ?_
      refine s_iload_n f_276_799 rfl ?_
      refine k_iconst (v := 1) f_276_800 (by decide) ?_
      refine s_iadd f_276_801 ?_
      refine O_scr (q := 6 * n + 1) f_276_802 (nI_add (6 * n) 1) (by omega) hL2 ?_
      refine s_aload_n f_276_803 rfl ?_
      refine s_iload_n f_276_804 rfl ?_
      refine k_iconst (v := 2) f_276_805 (by decide) ?_
      refine s_iadd f_276_806 ?_
      refine O_scr (q := 6 * n + 2) f_276_807 (nI_add (6 * n) 2) (by omega) hL2 ?_
      refine L_virt (As := [.int (sx (6 * n + 1)), .int (sx (6 * n + 2))]) f_276_808 ca_40_82 rfl rfl (obL (by decide)) (by decide) (Nat.le_of_ble_eq_true rfl) ?_
      refine t_rM_shift e2 ?_
      refine s_icmp_eq 1652 f_276_811 (by decide) (fun _ => ?_) (fun c => absurd er c)
      exact lw_next (ih _ _ _ _ _ (bc - 0) (bs - 0) (n + 1) hR2 (by omega) (by omega) (by omega) (by omega))
    by_cases ck16 : sx (6 * n + 0) &&& 63 = 16
    · obtain ⟨p, q, e1, e2, er, hR2⟩ := h_left S K T X M (sx (6 * n + 1)) (sx (6 * n + 2)) hR
      refine s_tabJ (off := 783) 16 816 ck16 f_276_33 (by decide) (by decide) (by decide) (by decide) ?_
      refine s_aload_n f_276_816 rfl ?_
      refine s_aload_n f_276_817 rfl ?_
      refine s_iload_n f_276_818 rfl ?_
      refine k_iconst (v := 1) f_276_819 (by decide) ?_
      refine s_iadd f_276_820 ?_
      refine O_scr (q := 6 * n + 1) f_276_821 (nI_add (6 * n) 1) (by omega) hL2 ?_
      refine s_aload_n f_276_822 rfl ?_
      refine s_iload_n f_276_823 rfl ?_
      refine k_iconst (v := 2) f_276_824 (by decide) ?_
      refine s_iadd f_276_825 ?_
      refine O_scr (q := 6 * n + 2) f_276_826 (nI_add (6 * n) 2) (by omega) hL2 ?_
      refine L_virt (As := [.int (sx (6 * n + 1)), .int (sx (6 * n + 2))]) f_276_827 ca_40_83 rfl rfl (obL (by decide)) (by decide) (Nat.le_of_ble_eq_true rfl) ?_
      refine t_cD_left e1 ?_
      refine s_aload_n f_276_830 rfl ?_
      refine s_aload_n f_276_831 rfl ?_
      refine s_iload_n f_276_832 rfl ?_
      refine k_iconst (v := 1) f_276_833 (by decide) ?_
      refine s_iadd f_276_834 ?_
      refine O_scr (q := 6 * n + 1) f_276_835 (nI_add (6 * n) 1) (by omega) hL2 ?_
      refine s_aload_n f_276_836 rfl ?_
      refine s_iload_n f_276_837 rfl ?_
      refine k_iconst (v := 2) f_276_838 (by decide) ?_
      refine s_iadd f_276_839 ?_
      refine O_scr (q := 6 * n + 2) f_276_840 (nI_add (6 * n) 2) (by omega) hL2 ?_
      refine L_virt (As := [.int (sx (6 * n + 1)), .int (sx (6 * n + 2))]) f_276_841 ca_40_86 rfl rfl (obL (by decide)) (by decide) (Nat.le_of_ble_eq_true rfl) ?_
      refine t_rM_left e2 ?_
      refine s_icmp_eq 1652 f_276_844 (by decide) (fun _ => ?_) (fun c => absurd er c)
      exact lw_next (ih _ _ _ _ _ (bc - 0) (bs - 0) (n + 1) hR2 (by omega) (by omega) (by omega) (by omega))
    by_cases ck17 : sx (6 * n + 0) &&& 63 = 17
    · obtain ⟨p, q, e1, e2, er, hR2⟩ := h_feed S K T X M (sx (6 * n + 1)) (((sx (6 * n + 2)).toInt64 <<< ((32 : Int32).toInt64 &&& 63)) ||| ((sx (6 * n + 3)).toInt64 &&& (4294967295 : Int64))) hR
      refine s_tabJ (off := 816) 17 849 ck17 f_276_33 (by decide) (by decide) (by decide) (by decide) ?_
      refine s_aload_n f_276_849 rfl ?_
      refine s_aload_n f_276_850 rfl ?_
      refine s_iload_n f_276_851 rfl ?_
      refine k_iconst (v := 1) f_276_852 (by decide) ?_
      refine s_iadd f_276_853 ?_
      refine O_scr (q := 6 * n + 1) f_276_854 (nI_add (6 * n) 1) (by omega) hL2 ?_
      refine s_aload_n f_276_855 rfl ?_
      refine s_iload_n f_276_856 rfl ?_
      refine k_iconst (v := 2) f_276_857 (by decide) ?_
      refine s_iadd f_276_858 ?_
      refine O_scr (q := 6 * n + 2) f_276_859 (nI_add (6 * n) 2) (by omega) hL2 ?_
      refine s_i2l f_276_860 ?_
      refine k_bipush (v := 32) f_276_861 (by decide) ?_
      refine s_lshl f_276_863 ?_
      refine s_aload_n f_276_864 rfl ?_
      refine s_iload_n f_276_865 rfl ?_
      refine k_iconst (v := 3) f_276_866 (by decide) ?_
      refine s_iadd f_276_867 ?_
      refine O_scr (q := 6 * n + 3) f_276_868 (nI_add (6 * n) 3) (by omega) hL2 ?_
      refine s_i2l f_276_869 ?_
      refine s_ldc2 f_276_870 kl_40_87 ?_
      refine s_land f_276_873 ?_
      refine s_lor f_276_874 ?_
      refine L_virt (As := [.int (sx (6 * n + 1)), .long (((sx (6 * n + 2)).toInt64 <<< ((32 : Int32).toInt64 &&& 63)) ||| ((sx (6 * n + 3)).toInt64 &&& (4294967295 : Int64)))]) f_276_875 ca_40_89 rfl rfl (obL (by decide)) (by decide) (Nat.le_of_ble_eq_true rfl) ?_
      refine t_cD_feed e1 ?_
      refine s_aload_n f_276_878 rfl ?_
      refine s_aload_n f_276_879 rfl ?_
      refine s_iload_n f_276_880 rfl ?_
      refine k_iconst (v := 1) f_276_881 (by decide) ?_
      refine s_iadd f_276_882 ?_
      refine O_scr (q := 6 * n + 1) f_276_883 (nI_add (6 * n) 1) (by omega) hL2 ?_
      refine s_aload_n f_276_884 rfl ?_
      refine s_iload_n f_276_885 rfl ?_
      refine k_iconst (v := 2) f_276_886 (by decide) ?_
      refine s_iadd f_276_887 ?_
      refine O_scr (q := 6 * n + 2) f_276_888 (nI_add (6 * n) 2) (by omega) hL2 ?_
      refine s_i2l f_276_889 ?_
      refine k_bipush (v := 32) f_276_890 (by decide) ?_
      refine s_lshl f_276_892 ?_
      refine s_aload_n f_276_893 rfl ?_
      refine s_iload_n f_276_894 rfl ?_
      refine k_iconst (v := 3) f_276_895 (by decide) ?_
      refine s_iadd f_276_896 ?_
      refine O_scr (q := 6 * n + 3) f_276_897 (nI_add (6 * n) 3) (by omega) hL2 ?_
      refine s_i2l f_276_898 ?_
      refine s_ldc2 f_276_899 kl_40_87 ?_
      refine s_land f_276_902 ?_
      refine s_lor f_276_903 ?_
      refine L_virt (As := [.int (sx (6 * n + 1)), .long (((sx (6 * n + 2)).toInt64 <<< ((32 : Int32).toInt64 &&& 63)) ||| ((sx (6 * n + 3)).toInt64 &&& (4294967295 : Int64)))]) f_276_904 ca_40_93 rfl rfl (obL (by decide)) (by decide) (Nat.le_of_ble_eq_true rfl) ?_
      refine t_rM_feed e2 ?_
      refine s_icmp_eq 1652 f_276_907 (by decide) (fun _ => ?_) (fun c => absurd er c)
      exact lw_next (ih _ _ _ _ _ (bc - 0) (bs - 0) (n + 1) hR2 (by omega) (by omega) (by omega) (by omega))
    by_cases ck18 : sx (6 * n + 0) &&& 63 = 18
    · obtain ⟨p, q, e1, e2, er, hR2⟩ := h_text S K T X M (sx (6 * n + 1)) hR
      refine s_tabJ (off := 879) 18 912 ck18 f_276_33 (by decide) (by decide) (by decide) (by decide) ?_
      refine s_aload_n f_276_912 rfl ?_
      refine s_aload_n f_276_913 rfl ?_
      refine s_iload_n f_276_914 rfl ?_
      refine k_iconst (v := 1) f_276_915 (by decide) ?_
      refine s_iadd f_276_916 ?_
      refine O_scr (q := 6 * n + 1) f_276_917 (nI_add (6 * n) 1) (by omega) hL2 ?_
      refine s_virt (mc' := 2) (ms' := 203) (x := 8) (As := [.int (sx (6 * n + 1))]) f_276_918 ca_40_94 rfl rfl (by decide) (show 8 < 172 + X.2 by omega) rfl (by decide) (Nat.le_of_ble_eq_true rfl) (by omega) (by omega) ?_
      refine t_cD_text e1 ?_
      refine s_aload_n f_276_921 rfl ?_
      refine s_aload_n f_276_922 rfl ?_
      refine s_iload_n f_276_923 rfl ?_
      refine k_iconst (v := 1) f_276_924 (by decide) ?_
      refine s_iadd f_276_925 ?_
      refine O_scr (q := 6 * n + 1) f_276_926 (nI_add (6 * n) 1) (by omega) hL2 ?_
      refine L_virt (As := [.int (sx (6 * n + 1))]) f_276_927 ca_40_97 rfl rfl (obL (by decide)) (by decide) (Nat.le_of_ble_eq_true rfl) ?_
      refine t_rM_text e2 ?_
      refine s_icmp_eq 1652 f_276_930 (by decide) (fun _ => ?_) (fun c => absurd er c)
      exact lw_next (ih _ _ _ _ _ (bc - 2) (bs - 203) (n + 1) hR2 (by omega) (by omega) (by omega) (by omega))
    by_cases ck19 : sx (6 * n + 0) &&& 63 = 19
    · obtain ⟨p, q, e1, e2, er, hR2⟩ := h_force S K T X M (sx (6 * n + 1)) (sx (6 * n + 2)) (sx (6 * n + 3)) hR
      refine s_tabJ (off := 902) 19 935 ck19 f_276_33 (by decide) (by decide) (by decide) (by decide) ?_
      refine s_aload_n f_276_935 rfl ?_
      refine s_aload_n f_276_936 rfl ?_
      refine s_iload_n f_276_937 rfl ?_
      refine k_iconst (v := 1) f_276_938 (by decide) ?_
      refine s_iadd f_276_939 ?_
      refine O_scr (q := 6 * n + 1) f_276_940 (nI_add (6 * n) 1) (by omega) hL2 ?_
      refine s_aload_n f_276_941 rfl ?_
      refine s_iload_n f_276_942 rfl ?_
      refine k_iconst (v := 2) f_276_943 (by decide) ?_
      refine s_iadd f_276_944 ?_
      refine O_scr (q := 6 * n + 2) f_276_945 (nI_add (6 * n) 2) (by omega) hL2 ?_
      refine s_aload_n f_276_946 rfl ?_
      refine s_iload_n f_276_947 rfl ?_
      refine k_iconst (v := 3) f_276_948 (by decide) ?_
      refine s_iadd f_276_949 ?_
      refine O_scr (q := 6 * n + 3) f_276_950 (nI_add (6 * n) 3) (by omega) hL2 ?_
      refine L_virt (As := [.int (sx (6 * n + 1)), .int (sx (6 * n + 2)), .int (sx (6 * n + 3))]) f_276_951 ca_40_98 rfl rfl (obL (by decide)) (by decide) (Nat.le_of_ble_eq_true rfl) ?_
      refine t_cD_force e1 ?_
      refine s_aload_n f_276_954 rfl ?_
      refine s_aload_n f_276_955 rfl ?_
      refine s_iload_n f_276_956 rfl ?_
      refine k_iconst (v := 1) f_276_957 (by decide) ?_
      refine s_iadd f_276_958 ?_
      refine O_scr (q := 6 * n + 1) f_276_959 (nI_add (6 * n) 1) (by omega) hL2 ?_
      refine s_aload_n f_276_960 rfl ?_
      refine s_iload_n f_276_961 rfl ?_
      refine k_iconst (v := 2) f_276_962 (by decide) ?_
      refine s_iadd f_276_963 ?_
      refine O_scr (q := 6 * n + 2) f_276_964 (nI_add (6 * n) 2) (by omega) hL2 ?_
      refine s_aload_n f_276_965 rfl ?_
      refine s_iload_n f_276_966 rfl ?_
      refine k_iconst (v := 3) f_276_967 (by decide) ?_
      refine s_iadd f_276_968 ?_
      refine O_scr (q := 6 * n + 3) f_276_969 (nI_add (6 * n) 3) (by omega) hL2 ?_
      refine L_virt (As := [.int (sx (6 * n + 1)), .int (sx (6 * n + 2)), .int (sx (6 * n + 3))]) f_276_970 ca_40_102 rfl rfl (obL (by decide)) (by decide) (Nat.le_of_ble_eq_true rfl) ?_
      refine t_rM_force e2 ?_
      refine s_icmp_eq 1652 f_276_973 (by decide) (fun _ => ?_) (fun c => absurd er c)
      exact lw_next (ih _ _ _ _ _ (bc - 0) (bs - 0) (n + 1) hR2 (by omega) (by omega) (by omega) (by omega))
    by_cases ck20 : sx (6 * n + 0) &&& 63 = 20
    · obtain ⟨p, q, e1, e2, er, hR2⟩ := h_law S K T X M (sx (6 * n + 1)) (sx (6 * n + 2)) hR
      refine s_tabJ (off := 945) 20 978 ck20 f_276_33 (by decide) (by decide) (by decide) (by decide) ?_
      refine s_aload_n f_276_978 rfl ?_
      refine s_aload_n f_276_979 rfl ?_
      refine s_iload_n f_276_980 rfl ?_
      refine k_iconst (v := 1) f_276_981 (by decide) ?_
      refine s_iadd f_276_982 ?_
      refine O_scr (q := 6 * n + 1) f_276_983 (nI_add (6 * n) 1) (by omega) hL2 ?_
      refine s_aload_n f_276_984 rfl ?_
      refine s_iload_n f_276_985 rfl ?_
      refine k_iconst (v := 2) f_276_986 (by decide) ?_
      refine s_iadd f_276_987 ?_
      refine O_scr (q := 6 * n + 2) f_276_988 (nI_add (6 * n) 2) (by omega) hL2 ?_
      refine L_virt (As := [.int (sx (6 * n + 1)), .int (sx (6 * n + 2))]) f_276_989 ca_40_103 rfl rfl (obL (by decide)) (by decide) (Nat.le_of_ble_eq_true rfl) ?_
      refine t_cD_law e1 ?_
      refine s_aload_n f_276_992 rfl ?_
      refine s_aload_n f_276_993 rfl ?_
      refine s_iload_n f_276_994 rfl ?_
      refine k_iconst (v := 1) f_276_995 (by decide) ?_
      refine s_iadd f_276_996 ?_
      refine O_scr (q := 6 * n + 1) f_276_997 (nI_add (6 * n) 1) (by omega) hL2 ?_
      refine s_aload_n f_276_998 rfl ?_
      refine s_iload_n f_276_999 rfl ?_
      refine k_iconst (v := 2) f_276_1000 (by decide) ?_
      refine s_iadd f_276_1001 ?_
      refine O_scr (q := 6 * n + 2) f_276_1002 (nI_add (6 * n) 2) (by omega) hL2 ?_
      refine L_virt (As := [.int (sx (6 * n + 1)), .int (sx (6 * n + 2))]) f_276_1003 ca_40_106 rfl rfl (obL (by decide)) (by decide) (Nat.le_of_ble_eq_true rfl) ?_
      refine t_rM_law e2 ?_
      refine s_icmp_eq 1652 f_276_1006 (by decide) (fun _ => ?_) (fun c => absurd er c)
      exact lw_next (ih _ _ _ _ _ (bc - 0) (bs - 0) (n + 1) hR2 (by omega) (by omega) (by omega) (by omega))
    by_cases ck21 : sx (6 * n + 0) &&& 63 = 21
    · obtain ⟨p, q, e1, e2, er, hR2⟩ := h_falls S K T X M (sx (6 * n + 1)) (sx (6 * n + 2)) (sx (6 * n + 3)) hR
      refine s_tabJ (off := 978) 21 1011 ck21 f_276_33 (by decide) (by decide) (by decide) (by decide) ?_
      refine s_aload_n f_276_1011 rfl ?_
      refine s_aload_n f_276_1012 rfl ?_
      refine s_iload_n f_276_1013 rfl ?_
      refine k_iconst (v := 1) f_276_1014 (by decide) ?_
      refine s_iadd f_276_1015 ?_
      refine O_scr (q := 6 * n + 1) f_276_1016 (nI_add (6 * n) 1) (by omega) hL2 ?_
      refine s_aload_n f_276_1017 rfl ?_
      refine s_iload_n f_276_1018 rfl ?_
      refine k_iconst (v := 2) f_276_1019 (by decide) ?_
      refine s_iadd f_276_1020 ?_
      refine O_scr (q := 6 * n + 2) f_276_1021 (nI_add (6 * n) 2) (by omega) hL2 ?_
      refine s_aload_n f_276_1022 rfl ?_
      refine s_iload_n f_276_1023 rfl ?_
      refine k_iconst (v := 3) f_276_1024 (by decide) ?_
      refine s_iadd f_276_1025 ?_
      refine O_scr (q := 6 * n + 3) f_276_1026 (nI_add (6 * n) 3) (by omega) hL2 ?_
      refine L_virt (As := [.int (sx (6 * n + 1)), .int (sx (6 * n + 2)), .int (sx (6 * n + 3))]) f_276_1027 ca_40_107 rfl rfl (obL (by decide)) (by decide) (Nat.le_of_ble_eq_true rfl) ?_
      refine t_cD_falls e1 ?_
      refine s_aload_n f_276_1030 rfl ?_
      refine s_aload_n f_276_1031 rfl ?_
      refine s_iload_n f_276_1032 rfl ?_
      refine k_iconst (v := 1) f_276_1033 (by decide) ?_
      refine s_iadd f_276_1034 ?_
      refine O_scr (q := 6 * n + 1) f_276_1035 (nI_add (6 * n) 1) (by omega) hL2 ?_
      refine s_aload_n f_276_1036 rfl ?_
      refine s_iload_n f_276_1037 rfl ?_
      refine k_iconst (v := 2) f_276_1038 (by decide) ?_
      refine s_iadd f_276_1039 ?_
      refine O_scr (q := 6 * n + 2) f_276_1040 (nI_add (6 * n) 2) (by omega) hL2 ?_
      refine s_aload_n f_276_1041 rfl ?_
      refine s_iload_n f_276_1042 rfl ?_
      refine k_iconst (v := 3) f_276_1043 (by decide) ?_
      refine s_iadd f_276_1044 ?_
      refine O_scr (q := 6 * n + 3) f_276_1045 (nI_add (6 * n) 3) (by omega) hL2 ?_
      refine L_virt (As := [.int (sx (6 * n + 1)), .int (sx (6 * n + 2)), .int (sx (6 * n + 3))]) f_276_1046 ca_40_110 rfl rfl (obL (by decide)) (by decide) (Nat.le_of_ble_eq_true rfl) ?_
      refine t_rM_falls e2 ?_
      refine s_icmp_eq 1652 f_276_1049 (by decide) (fun _ => ?_) (fun c => absurd er c)
      exact lw_next (ih _ _ _ _ _ (bc - 0) (bs - 0) (n + 1) hR2 (by omega) (by omega) (by omega) (by omega))
    by_cases ck22 : sx (6 * n + 0) &&& 63 = 22
    · obtain ⟨p, q, e1, e2, er, hR2⟩ := h_truly S K T X M (sx (6 * n + 1)) (sx (6 * n + 2)) (sx (6 * n + 3)) hR
      refine s_tabJ (off := 1021) 22 1054 ck22 f_276_33 (by decide) (by decide) (by decide) (by decide) ?_
      refine s_aload_n f_276_1054 rfl ?_
      refine s_aload_n f_276_1055 rfl ?_
      refine s_iload_n f_276_1056 rfl ?_
      refine k_iconst (v := 1) f_276_1057 (by decide) ?_
      refine s_iadd f_276_1058 ?_
      refine O_scr (q := 6 * n + 1) f_276_1059 (nI_add (6 * n) 1) (by omega) hL2 ?_
      refine s_aload_n f_276_1060 rfl ?_
      refine s_iload_n f_276_1061 rfl ?_
      refine k_iconst (v := 2) f_276_1062 (by decide) ?_
      refine s_iadd f_276_1063 ?_
      refine O_scr (q := 6 * n + 2) f_276_1064 (nI_add (6 * n) 2) (by omega) hL2 ?_
      refine s_aload_n f_276_1065 rfl ?_
      refine s_iload_n f_276_1066 rfl ?_
      refine k_iconst (v := 3) f_276_1067 (by decide) ?_
      refine s_iadd f_276_1068 ?_
      refine O_scr (q := 6 * n + 3) f_276_1069 (nI_add (6 * n) 3) (by omega) hL2 ?_
      refine L_virt (As := [.int (sx (6 * n + 1)), .int (sx (6 * n + 2)), .int (sx (6 * n + 3))]) f_276_1070 ca_40_111 rfl rfl (obL (by decide)) (by decide) (Nat.le_of_ble_eq_true rfl) ?_
      refine t_cD_truly e1 ?_
      refine s_aload_n f_276_1073 rfl ?_
      refine s_aload_n f_276_1074 rfl ?_
      refine s_iload_n f_276_1075 rfl ?_
      refine k_iconst (v := 1) f_276_1076 (by decide) ?_
      refine s_iadd f_276_1077 ?_
      refine O_scr (q := 6 * n + 1) f_276_1078 (nI_add (6 * n) 1) (by omega) hL2 ?_
      refine s_aload_n f_276_1079 rfl ?_
      refine s_iload_n f_276_1080 rfl ?_
      refine k_iconst (v := 2) f_276_1081 (by decide) ?_
      refine s_iadd f_276_1082 ?_
      refine O_scr (q := 6 * n + 2) f_276_1083 (nI_add (6 * n) 2) (by omega) hL2 ?_
      refine s_aload_n f_276_1084 rfl ?_
      refine s_iload_n f_276_1085 rfl ?_
      refine k_iconst (v := 3) f_276_1086 (by decide) ?_
      refine s_iadd f_276_1087 ?_
      refine O_scr (q := 6 * n + 3) f_276_1088 (nI_add (6 * n) 3) (by omega) hL2 ?_
      refine L_virt (As := [.int (sx (6 * n + 1)), .int (sx (6 * n + 2)), .int (sx (6 * n + 3))]) f_276_1089 ca_40_114 rfl rfl (obL (by decide)) (by decide) (Nat.le_of_ble_eq_true rfl) ?_
      refine t_rM_truly e2 ?_
      refine s_icmp_eq 1652 f_276_1092 (by decide) (fun _ => ?_) (fun c => absurd er c)
      exact lw_next (ih _ _ _ _ _ (bc - 0) (bs - 0) (n + 1) hR2 (by omega) (by omega) (by omega) (by omega))
    by_cases ck23 : sx (6 * n + 0) &&& 63 = 23
    · obtain ⟨p, q, e1, e2, er, hR2⟩ := h_back S K T X M (sx (6 * n + 1)) (sx (6 * n + 2)) (sx (6 * n + 3)) hR
      refine s_tabJ (off := 1064) 23 1097 ck23 f_276_33 (by decide) (by decide) (by decide) (by decide) ?_
      refine s_aload_n f_276_1097 rfl ?_
      refine s_aload_n f_276_1098 rfl ?_
      refine s_iload_n f_276_1099 rfl ?_
      refine k_iconst (v := 1) f_276_1100 (by decide) ?_
      refine s_iadd f_276_1101 ?_
      refine O_scr (q := 6 * n + 1) f_276_1102 (nI_add (6 * n) 1) (by omega) hL2 ?_
      refine s_aload_n f_276_1103 rfl ?_
      refine s_iload_n f_276_1104 rfl ?_
      refine k_iconst (v := 2) f_276_1105 (by decide) ?_
      refine s_iadd f_276_1106 ?_
      refine O_scr (q := 6 * n + 2) f_276_1107 (nI_add (6 * n) 2) (by omega) hL2 ?_
      refine s_aload_n f_276_1108 rfl ?_
      refine s_iload_n f_276_1109 rfl ?_
      refine k_iconst (v := 3) f_276_1110 (by decide) ?_
      refine s_iadd f_276_1111 ?_
      refine O_scr (q := 6 * n + 3) f_276_1112 (nI_add (6 * n) 3) (by omega) hL2 ?_
      refine L_virt (As := [.int (sx (6 * n + 1)), .int (sx (6 * n + 2)), .int (sx (6 * n + 3))]) f_276_1113 ca_40_115 rfl rfl (obL (by decide)) (by decide) (Nat.le_of_ble_eq_true rfl) ?_
      refine t_cD_back e1 ?_
      refine s_aload_n f_276_1116 rfl ?_
      refine s_aload_n f_276_1117 rfl ?_
      refine s_iload_n f_276_1118 rfl ?_
      refine k_iconst (v := 1) f_276_1119 (by decide) ?_
      refine s_iadd f_276_1120 ?_
      refine O_scr (q := 6 * n + 1) f_276_1121 (nI_add (6 * n) 1) (by omega) hL2 ?_
      refine s_aload_n f_276_1122 rfl ?_
      refine s_iload_n f_276_1123 rfl ?_
      refine k_iconst (v := 2) f_276_1124 (by decide) ?_
      refine s_iadd f_276_1125 ?_
      refine O_scr (q := 6 * n + 2) f_276_1126 (nI_add (6 * n) 2) (by omega) hL2 ?_
      refine s_aload_n f_276_1127 rfl ?_
      refine s_iload_n f_276_1128 rfl ?_
      refine k_iconst (v := 3) f_276_1129 (by decide) ?_
      refine s_iadd f_276_1130 ?_
      refine O_scr (q := 6 * n + 3) f_276_1131 (nI_add (6 * n) 3) (by omega) hL2 ?_
      refine L_virt (As := [.int (sx (6 * n + 1)), .int (sx (6 * n + 2)), .int (sx (6 * n + 3))]) f_276_1132 ca_40_118 rfl rfl (obL (by decide)) (by decide) (Nat.le_of_ble_eq_true rfl) ?_
      refine t_rM_back e2 ?_
      refine s_icmp_eq 1652 f_276_1135 (by decide) (fun _ => ?_) (fun c => absurd er c)
      exact lw_next (ih _ _ _ _ _ (bc - 0) (bs - 0) (n + 1) hR2 (by omega) (by omega) (by omega) (by omega))
    by_cases ck24 : sx (6 * n + 0) &&& 63 = 24
    · obtain ⟨p, q, e1, e2, er, hR2⟩ := h_dress S K T X M (sx (6 * n + 1)) (sx (6 * n + 2)) (sx (6 * n + 3)) hR
      refine s_tabJ (off := 1107) 24 1140 ck24 f_276_33 (by decide) (by decide) (by decide) (by decide) ?_
      refine s_aload_n f_276_1140 rfl ?_
      refine s_aload_n f_276_1141 rfl ?_
      refine s_iload_n f_276_1142 rfl ?_
      refine k_iconst (v := 1) f_276_1143 (by decide) ?_
      refine s_iadd f_276_1144 ?_
      refine O_scr (q := 6 * n + 1) f_276_1145 (nI_add (6 * n) 1) (by omega) hL2 ?_
      refine s_aload_n f_276_1146 rfl ?_
      refine s_iload_n f_276_1147 rfl ?_
      refine k_iconst (v := 2) f_276_1148 (by decide) ?_
      refine s_iadd f_276_1149 ?_
      refine O_scr (q := 6 * n + 2) f_276_1150 (nI_add (6 * n) 2) (by omega) hL2 ?_
      refine s_aload_n f_276_1151 rfl ?_
      refine s_iload_n f_276_1152 rfl ?_
      refine k_iconst (v := 3) f_276_1153 (by decide) ?_
      refine s_iadd f_276_1154 ?_
      refine O_scr (q := 6 * n + 3) f_276_1155 (nI_add (6 * n) 3) (by omega) hL2 ?_
      refine L_virt (As := [.int (sx (6 * n + 1)), .int (sx (6 * n + 2)), .int (sx (6 * n + 3))]) f_276_1156 ca_40_119 rfl rfl (obL (by decide)) (by decide) (Nat.le_of_ble_eq_true rfl) ?_
      refine t_cD_dress e1 ?_
      refine s_aload_n f_276_1159 rfl ?_
      refine s_aload_n f_276_1160 rfl ?_
      refine s_iload_n f_276_1161 rfl ?_
      refine k_iconst (v := 1) f_276_1162 (by decide) ?_
      refine s_iadd f_276_1163 ?_
      refine O_scr (q := 6 * n + 1) f_276_1164 (nI_add (6 * n) 1) (by omega) hL2 ?_
      refine s_aload_n f_276_1165 rfl ?_
      refine s_iload_n f_276_1166 rfl ?_
      refine k_iconst (v := 2) f_276_1167 (by decide) ?_
      refine s_iadd f_276_1168 ?_
      refine O_scr (q := 6 * n + 2) f_276_1169 (nI_add (6 * n) 2) (by omega) hL2 ?_
      refine s_aload_n f_276_1170 rfl ?_
      refine s_iload_n f_276_1171 rfl ?_
      refine k_iconst (v := 3) f_276_1172 (by decide) ?_
      refine s_iadd f_276_1173 ?_
      refine O_scr (q := 6 * n + 3) f_276_1174 (nI_add (6 * n) 3) (by omega) hL2 ?_
      refine L_virt (As := [.int (sx (6 * n + 1)), .int (sx (6 * n + 2)), .int (sx (6 * n + 3))]) f_276_1175 ca_40_122 rfl rfl (obL (by decide)) (by decide) (Nat.le_of_ble_eq_true rfl) ?_
      refine t_rM_dress e2 ?_
      refine s_icmp_eq 1652 f_276_1178 (by decide) (fun _ => ?_) (fun c => absurd er c)
      exact lw_next (ih _ _ _ _ _ (bc - 0) (bs - 0) (n + 1) hR2 (by omega) (by omega) (by omega) (by omega))
    by_cases ck25 : sx (6 * n + 0) &&& 63 = 25
    · obtain ⟨p, q, e1, e2, er, hR2⟩ := h_price S K T X M (sx (6 * n + 1)) (sx (6 * n + 2)) hR
      refine s_tabJ (off := 1150) 25 1183 ck25 f_276_33 (by decide) (by decide) (by decide) (by decide) ?_
      refine s_aload_n f_276_1183 rfl ?_
      refine s_aload_n f_276_1184 rfl ?_
      refine s_iload_n f_276_1185 rfl ?_
      refine k_iconst (v := 1) f_276_1186 (by decide) ?_
      refine s_iadd f_276_1187 ?_
      refine O_scr (q := 6 * n + 1) f_276_1188 (nI_add (6 * n) 1) (by omega) hL2 ?_
      refine s_aload_n f_276_1189 rfl ?_
      refine s_iload_n f_276_1190 rfl ?_
      refine k_iconst (v := 2) f_276_1191 (by decide) ?_
      refine s_iadd f_276_1192 ?_
      refine O_scr (q := 6 * n + 2) f_276_1193 (nI_add (6 * n) 2) (by omega) hL2 ?_
      refine L_virt (As := [.int (sx (6 * n + 1)), .int (sx (6 * n + 2))]) f_276_1194 ca_40_123 rfl rfl (obL (by decide)) (by decide) (Nat.le_of_ble_eq_true rfl) ?_
      refine t_cD_price e1 ?_
      refine s_aload_n f_276_1197 rfl ?_
      refine s_aload_n f_276_1198 rfl ?_
      refine s_iload_n f_276_1199 rfl ?_
      refine k_iconst (v := 1) f_276_1200 (by decide) ?_
      refine s_iadd f_276_1201 ?_
      refine O_scr (q := 6 * n + 1) f_276_1202 (nI_add (6 * n) 1) (by omega) hL2 ?_
      refine s_aload_n f_276_1203 rfl ?_
      refine s_iload_n f_276_1204 rfl ?_
      refine k_iconst (v := 2) f_276_1205 (by decide) ?_
      refine s_iadd f_276_1206 ?_
      refine O_scr (q := 6 * n + 2) f_276_1207 (nI_add (6 * n) 2) (by omega) hL2 ?_
      refine L_virt (As := [.int (sx (6 * n + 1)), .int (sx (6 * n + 2))]) f_276_1208 ca_40_126 rfl rfl (obL (by decide)) (by decide) (Nat.le_of_ble_eq_true rfl) ?_
      refine t_rM_price e2 ?_
      refine s_icmp_eq 1652 f_276_1211 (by decide) (fun _ => ?_) (fun c => absurd er c)
      exact lw_next (ih _ _ _ _ _ (bc - 0) (bs - 0) (n + 1) hR2 (by omega) (by omega) (by omega) (by omega))
    by_cases ck26 : sx (6 * n + 0) &&& 63 = 26
    · obtain ⟨p, q, e1, e2, er, hR2⟩ := h_year S K T X M (sx (6 * n + 1)) hR
      refine s_tabJ (off := 1183) 26 1216 ck26 f_276_33 (by decide) (by decide) (by decide) (by decide) ?_
      refine s_aload_n f_276_1216 rfl ?_
      refine s_aload_n f_276_1217 rfl ?_
      refine s_iload_n f_276_1218 rfl ?_
      refine k_iconst (v := 1) f_276_1219 (by decide) ?_
      refine s_iadd f_276_1220 ?_
      refine O_scr (q := 6 * n + 1) f_276_1221 (nI_add (6 * n) 1) (by omega) hL2 ?_
      refine L_virt (As := [.int (sx (6 * n + 1))]) f_276_1222 ca_40_127 rfl rfl (obL (by decide)) (by decide) (Nat.le_of_ble_eq_true rfl) ?_
      refine t_cD_year e1 ?_
      refine s_aload_n f_276_1225 rfl ?_
      refine s_aload_n f_276_1226 rfl ?_
      refine s_iload_n f_276_1227 rfl ?_
      refine k_iconst (v := 1) f_276_1228 (by decide) ?_
      refine s_iadd f_276_1229 ?_
      refine O_scr (q := 6 * n + 1) f_276_1230 (nI_add (6 * n) 1) (by omega) hL2 ?_
      refine L_virt (As := [.int (sx (6 * n + 1))]) f_276_1231 ca_40_130 rfl rfl (obL (by decide)) (by decide) (Nat.le_of_ble_eq_true rfl) ?_
      refine t_rM_year e2 ?_
      refine s_icmp_eq 1652 f_276_1234 (by decide) (fun _ => ?_) (fun c => absurd er c)
      exact lw_next (ih _ _ _ _ _ (bc - 0) (bs - 0) (n + 1) hR2 (by omega) (by omega) (by omega) (by omega))
    by_cases ck27 : sx (6 * n + 0) &&& 63 = 27
    · obtain ⟨p, q, e1, e2, er, hR2⟩ := h_years S K T X M (sx (6 * n + 1)) hR
      refine s_tabJ (off := 1206) 27 1239 ck27 f_276_33 (by decide) (by decide) (by decide) (by decide) ?_
      refine s_aload_n f_276_1239 rfl ?_
      refine s_aload_n f_276_1240 rfl ?_
      refine s_iload_n f_276_1241 rfl ?_
      refine k_iconst (v := 1) f_276_1242 (by decide) ?_
      refine s_iadd f_276_1243 ?_
      refine O_scr (q := 6 * n + 1) f_276_1244 (nI_add (6 * n) 1) (by omega) hL2 ?_
      refine L_virt (As := [.int (sx (6 * n + 1))]) f_276_1245 ca_40_131 rfl rfl (obL (by decide)) (by decide) (Nat.le_of_ble_eq_true rfl) ?_
      refine t_cD_years e1 ?_
      refine s_aload_n f_276_1248 rfl ?_
      refine s_aload_n f_276_1249 rfl ?_
      refine s_iload_n f_276_1250 rfl ?_
      refine k_iconst (v := 1) f_276_1251 (by decide) ?_
      refine s_iadd f_276_1252 ?_
      refine O_scr (q := 6 * n + 1) f_276_1253 (nI_add (6 * n) 1) (by omega) hL2 ?_
      refine L_virt (As := [.int (sx (6 * n + 1))]) f_276_1254 ca_40_134 rfl rfl (obL (by decide)) (by decide) (Nat.le_of_ble_eq_true rfl) ?_
      refine t_rM_years e2 ?_
      refine s_icmp_eq 1652 f_276_1257 (by decide) (fun _ => ?_) (fun c => absurd er c)
      exact lw_next (ih _ _ _ _ _ (bc - 0) (bs - 0) (n + 1) hR2 (by omega) (by omega) (by omega) (by omega))
    by_cases ck28 : sx (6 * n + 0) &&& 63 = 28
    · obtain ⟨p, q, e1, e2, er, hR2⟩ := h_chain S K T X M (sx (6 * n + 1)) hR
      refine s_tabJ (off := 1229) 28 1262 ck28 f_276_33 (by decide) (by decide) (by decide) (by decide) ?_
      refine s_aload_n f_276_1262 rfl ?_
      refine s_aload_n f_276_1263 rfl ?_
      refine s_iload_n f_276_1264 rfl ?_
      refine k_iconst (v := 1) f_276_1265 (by decide) ?_
      refine s_iadd f_276_1266 ?_
      refine O_scr (q := 6 * n + 1) f_276_1267 (nI_add (6 * n) 1) (by omega) hL2 ?_
      refine L_virt (As := [.int (sx (6 * n + 1))]) f_276_1268 ca_40_135 rfl rfl (obL (by decide)) (by decide) (Nat.le_of_ble_eq_true rfl) ?_
      refine t_cD_chain e1 ?_
      refine s_aload_n f_276_1271 rfl ?_
      refine s_aload_n f_276_1272 rfl ?_
      refine s_iload_n f_276_1273 rfl ?_
      refine k_iconst (v := 1) f_276_1274 (by decide) ?_
      refine s_iadd f_276_1275 ?_
      refine O_scr (q := 6 * n + 1) f_276_1276 (nI_add (6 * n) 1) (by omega) hL2 ?_
      refine L_virt (As := [.int (sx (6 * n + 1))]) f_276_1277 ca_40_138 rfl rfl (obL (by decide)) (by decide) (Nat.le_of_ble_eq_true rfl) ?_
      refine t_rM_chain e2 ?_
      refine s_icmp_eq 1652 f_276_1280 (by decide) (fun _ => ?_) (fun c => absurd er c)
      exact lw_next (ih _ _ _ _ _ (bc - 0) (bs - 0) (n + 1) hR2 (by omega) (by omega) (by omega) (by omega))
    by_cases ck29 : sx (6 * n + 0) &&& 63 = 29
    · obtain ⟨p, q, e1, e2, er, hR2⟩ := h_last S K T X M (sx (6 * n + 1)) (sx (6 * n + 2)) (sx (6 * n + 3)) (sx (6 * n + 4)) hR
      refine s_tabJ (off := 1252) 29 1285 ck29 f_276_33 (by decide) (by decide) (by decide) (by decide) ?_
      refine s_aload_n f_276_1285 rfl ?_
      refine s_aload_n f_276_1286 rfl ?_
      refine s_iload_n f_276_1287 rfl ?_
      refine k_iconst (v := 1) f_276_1288 (by decide) ?_
      refine s_iadd f_276_1289 ?_
      refine O_scr (q := 6 * n + 1) f_276_1290 (nI_add (6 * n) 1) (by omega) hL2 ?_
      refine s_aload_n f_276_1291 rfl ?_
      refine s_iload_n f_276_1292 rfl ?_
      refine k_iconst (v := 2) f_276_1293 (by decide) ?_
      refine s_iadd f_276_1294 ?_
      refine O_scr (q := 6 * n + 2) f_276_1295 (nI_add (6 * n) 2) (by omega) hL2 ?_
      refine s_aload_n f_276_1296 rfl ?_
      refine s_iload_n f_276_1297 rfl ?_
      refine k_iconst (v := 3) f_276_1298 (by decide) ?_
      refine s_iadd f_276_1299 ?_
      refine O_scr (q := 6 * n + 3) f_276_1300 (nI_add (6 * n) 3) (by omega) hL2 ?_
      refine s_aload_n f_276_1301 rfl ?_
      refine s_iload_n f_276_1302 rfl ?_
      refine k_iconst (v := 4) f_276_1303 (by decide) ?_
      refine s_iadd f_276_1304 ?_
      refine O_scr (q := 6 * n + 4) f_276_1305 (nI_add (6 * n) 4) (by omega) hL2 ?_
      refine L_virt (As := [.int (sx (6 * n + 1)), .int (sx (6 * n + 2)), .int (sx (6 * n + 3)), .int (sx (6 * n + 4))]) f_276_1306 ca_40_139 rfl rfl (obL (by decide)) (by decide) (Nat.le_of_ble_eq_true rfl) ?_
      refine t_cD_last e1 ?_
      refine s_aload_n f_276_1309 rfl ?_
      refine s_aload_n f_276_1310 rfl ?_
      refine s_iload_n f_276_1311 rfl ?_
      refine k_iconst (v := 1) f_276_1312 (by decide) ?_
      refine s_iadd f_276_1313 ?_
      refine O_scr (q := 6 * n + 1) f_276_1314 (nI_add (6 * n) 1) (by omega) hL2 ?_
      refine s_aload_n f_276_1315 rfl ?_
      refine s_iload_n f_276_1316 rfl ?_
      refine k_iconst (v := 2) f_276_1317 (by decide) ?_
      refine s_iadd f_276_1318 ?_
      refine O_scr (q := 6 * n + 2) f_276_1319 (nI_add (6 * n) 2) (by omega) hL2 ?_
      refine s_aload_n f_276_1320 rfl ?_
      refine s_iload_n f_276_1321 rfl ?_
      refine k_iconst (v := 3) f_276_1322 (by decide) ?_
      refine s_iadd f_276_1323 ?_
      refine O_scr (q := 6 * n + 3) f_276_1324 (nI_add (6 * n) 3) (by omega) hL2 ?_
      refine s_aload_n f_276_1325 rfl ?_
      refine s_iload_n f_276_1326 rfl ?_
      refine k_iconst (v := 4) f_276_1327 (by decide) ?_
      refine s_iadd f_276_1328 ?_
      refine O_scr (q := 6 * n + 4) f_276_1329 (nI_add (6 * n) 4) (by omega) hL2 ?_
      refine L_virt (As := [.int (sx (6 * n + 1)), .int (sx (6 * n + 2)), .int (sx (6 * n + 3)), .int (sx (6 * n + 4))]) f_276_1330 ca_40_142 rfl rfl (obL (by decide)) (by decide) (Nat.le_of_ble_eq_true rfl) ?_
      refine t_rM_last e2 ?_
      refine s_icmp_eq 1652 f_276_1333 (by decide) (fun _ => ?_) (fun c => absurd er c)
      exact lw_next (ih _ _ _ _ _ (bc - 0) (bs - 0) (n + 1) hR2 (by omega) (by omega) (by omega) (by omega))
    by_cases ck30 : sx (6 * n + 0) &&& 63 = 30
    · obtain ⟨p, q, e1, e2, er, hR2⟩ := h_pays S K T X M (sx (6 * n + 1)) (sx (6 * n + 2)) (sx (6 * n + 3)) (sx (6 * n + 4)) (sx (6 * n + 5)) hR
      refine s_tabJ (off := 1305) 30 1338 ck30 f_276_33 (by decide) (by decide) (by decide) (by decide) ?_
      refine s_aload_n f_276_1338 rfl ?_
      refine s_aload_n f_276_1339 rfl ?_
      refine s_iload_n f_276_1340 rfl ?_
      refine k_iconst (v := 1) f_276_1341 (by decide) ?_
      refine s_iadd f_276_1342 ?_
      refine O_scr (q := 6 * n + 1) f_276_1343 (nI_add (6 * n) 1) (by omega) hL2 ?_
      refine s_aload_n f_276_1344 rfl ?_
      refine s_iload_n f_276_1345 rfl ?_
      refine k_iconst (v := 2) f_276_1346 (by decide) ?_
      refine s_iadd f_276_1347 ?_
      refine O_scr (q := 6 * n + 2) f_276_1348 (nI_add (6 * n) 2) (by omega) hL2 ?_
      refine s_aload_n f_276_1349 rfl ?_
      refine s_iload_n f_276_1350 rfl ?_
      refine k_iconst (v := 3) f_276_1351 (by decide) ?_
      refine s_iadd f_276_1352 ?_
      refine O_scr (q := 6 * n + 3) f_276_1353 (nI_add (6 * n) 3) (by omega) hL2 ?_
      refine s_aload_n f_276_1354 rfl ?_
      refine s_iload_n f_276_1355 rfl ?_
      refine k_iconst (v := 4) f_276_1356 (by decide) ?_
      refine s_iadd f_276_1357 ?_
      refine O_scr (q := 6 * n + 4) f_276_1358 (nI_add (6 * n) 4) (by omega) hL2 ?_
      refine s_aload_n f_276_1359 rfl ?_
      refine s_iload_n f_276_1360 rfl ?_
      refine k_iconst (v := 5) f_276_1361 (by decide) ?_
      refine s_iadd f_276_1362 ?_
      refine O_scr (q := 6 * n + 5) f_276_1363 (nI_add (6 * n) 5) (by omega) hL2 ?_
      refine L_virt (As := [.int (sx (6 * n + 1)), .int (sx (6 * n + 2)), .int (sx (6 * n + 3)), .int (sx (6 * n + 4)), .int (sx (6 * n + 5))]) f_276_1364 ca_40_143 rfl rfl (obL (by decide)) (by decide) (Nat.le_of_ble_eq_true rfl) ?_
      refine t_cD_pays e1 ?_
      refine s_aload_n f_276_1367 rfl ?_
      refine s_aload_n f_276_1368 rfl ?_
      refine s_iload_n f_276_1369 rfl ?_
      refine k_iconst (v := 1) f_276_1370 (by decide) ?_
      refine s_iadd f_276_1371 ?_
      refine O_scr (q := 6 * n + 1) f_276_1372 (nI_add (6 * n) 1) (by omega) hL2 ?_
      refine s_aload_n f_276_1373 rfl ?_
      refine s_iload_n f_276_1374 rfl ?_
      refine k_iconst (v := 2) f_276_1375 (by decide) ?_
      refine s_iadd f_276_1376 ?_
      refine O_scr (q := 6 * n + 2) f_276_1377 (nI_add (6 * n) 2) (by omega) hL2 ?_
      refine s_aload_n f_276_1378 rfl ?_
      refine s_iload_n f_276_1379 rfl ?_
      refine k_iconst (v := 3) f_276_1380 (by decide) ?_
      refine s_iadd f_276_1381 ?_
      refine O_scr (q := 6 * n + 3) f_276_1382 (nI_add (6 * n) 3) (by omega) hL2 ?_
      refine s_aload_n f_276_1383 rfl ?_
      refine s_iload_n f_276_1384 rfl ?_
      refine k_iconst (v := 4) f_276_1385 (by decide) ?_
      refine s_iadd f_276_1386 ?_
      refine O_scr (q := 6 * n + 4) f_276_1387 (nI_add (6 * n) 4) (by omega) hL2 ?_
      refine s_aload_n f_276_1388 rfl ?_
      refine s_iload_n f_276_1389 rfl ?_
      refine k_iconst (v := 5) f_276_1390 (by decide) ?_
      refine s_iadd f_276_1391 ?_
      refine O_scr (q := 6 * n + 5) f_276_1392 (nI_add (6 * n) 5) (by omega) hL2 ?_
      refine L_virt (As := [.int (sx (6 * n + 1)), .int (sx (6 * n + 2)), .int (sx (6 * n + 3)), .int (sx (6 * n + 4)), .int (sx (6 * n + 5))]) f_276_1393 ca_40_146 rfl rfl (obL (by decide)) (by decide) (Nat.le_of_ble_eq_true rfl) ?_
      refine t_rM_pays e2 ?_
      refine s_icmp_eq 1652 f_276_1396 (by decide) (fun _ => ?_) (fun c => absurd er c)
      exact lw_next (ih _ _ _ _ _ (bc - 0) (bs - 0) (n + 1) hR2 (by omega) (by omega) (by omega) (by omega))
    by_cases ck31 : sx (6 * n + 0) &&& 63 = 31
    · obtain ⟨p, q, e1, e2, er, hR2⟩ := h_proves S K T X M (sx (6 * n + 1)) (sx (6 * n + 2)) (sx (6 * n + 3)) (sx (6 * n + 4)) hR
      refine s_tabJ (off := 1368) 31 1401 ck31 f_276_33 (by decide) (by decide) (by decide) (by decide) ?_
      refine s_aload_n f_276_1401 rfl ?_
      refine s_aload_n f_276_1402 rfl ?_
      refine s_iload_n f_276_1403 rfl ?_
      refine k_iconst (v := 1) f_276_1404 (by decide) ?_
      refine s_iadd f_276_1405 ?_
      refine O_scr (q := 6 * n + 1) f_276_1406 (nI_add (6 * n) 1) (by omega) hL2 ?_
      refine s_aload_n f_276_1407 rfl ?_
      refine s_iload_n f_276_1408 rfl ?_
      refine k_iconst (v := 2) f_276_1409 (by decide) ?_
      refine s_iadd f_276_1410 ?_
      refine O_scr (q := 6 * n + 2) f_276_1411 (nI_add (6 * n) 2) (by omega) hL2 ?_
      refine s_aload_n f_276_1412 rfl ?_
      refine s_iload_n f_276_1413 rfl ?_
      refine k_iconst (v := 3) f_276_1414 (by decide) ?_
      refine s_iadd f_276_1415 ?_
      refine O_scr (q := 6 * n + 3) f_276_1416 (nI_add (6 * n) 3) (by omega) hL2 ?_
      refine s_aload_n f_276_1417 rfl ?_
      refine s_iload_n f_276_1418 rfl ?_
      refine k_iconst (v := 4) f_276_1419 (by decide) ?_
      refine s_iadd f_276_1420 ?_
      refine O_scr (q := 6 * n + 4) f_276_1421 (nI_add (6 * n) 4) (by omega) hL2 ?_
      refine L_virt (As := [.int (sx (6 * n + 1)), .int (sx (6 * n + 2)), .int (sx (6 * n + 3)), .int (sx (6 * n + 4))]) f_276_1422 ca_40_147 rfl rfl (obL (by decide)) (by decide) (Nat.le_of_ble_eq_true rfl) ?_
      refine t_cD_proves e1 ?_
      refine s_aload_n f_276_1425 rfl ?_
      refine s_aload_n f_276_1426 rfl ?_
      refine s_iload_n f_276_1427 rfl ?_
      refine k_iconst (v := 1) f_276_1428 (by decide) ?_
      refine s_iadd f_276_1429 ?_
      refine O_scr (q := 6 * n + 1) f_276_1430 (nI_add (6 * n) 1) (by omega) hL2 ?_
      refine s_aload_n f_276_1431 rfl ?_
      refine s_iload_n f_276_1432 rfl ?_
      refine k_iconst (v := 2) f_276_1433 (by decide) ?_
      refine s_iadd f_276_1434 ?_
      refine O_scr (q := 6 * n + 2) f_276_1435 (nI_add (6 * n) 2) (by omega) hL2 ?_
      refine s_aload_n f_276_1436 rfl ?_
      refine s_iload_n f_276_1437 rfl ?_
      refine k_iconst (v := 3) f_276_1438 (by decide) ?_
      refine s_iadd f_276_1439 ?_
      refine O_scr (q := 6 * n + 3) f_276_1440 (nI_add (6 * n) 3) (by omega) hL2 ?_
      refine s_aload_n f_276_1441 rfl ?_
      refine s_iload_n f_276_1442 rfl ?_
      refine k_iconst (v := 4) f_276_1443 (by decide) ?_
      refine s_iadd f_276_1444 ?_
      refine O_scr (q := 6 * n + 4) f_276_1445 (nI_add (6 * n) 4) (by omega) hL2 ?_
      refine L_virt (As := [.int (sx (6 * n + 1)), .int (sx (6 * n + 2)), .int (sx (6 * n + 3)), .int (sx (6 * n + 4))]) f_276_1446 ca_40_150 rfl rfl (obL (by decide)) (by decide) (Nat.le_of_ble_eq_true rfl) ?_
      refine t_rM_proves e2 ?_
      refine s_icmp_eq 1652 f_276_1449 (by decide) (fun _ => ?_) (fun c => absurd er c)
      exact lw_next (ih _ _ _ _ _ (bc - 0) (bs - 0) (n + 1) hR2 (by omega) (by omega) (by omega) (by omega))
    by_cases ck32 : sx (6 * n + 0) &&& 63 = 32
    · obtain ⟨p, q, e1, e2, er, hR2⟩ := h_sheet S K T X M (sx (6 * n + 1)) (sx (6 * n + 2)) (sx (6 * n + 3)) hR
      refine s_tabJ (off := 1421) 32 1454 ck32 f_276_33 (by decide) (by decide) (by decide) (by decide) ?_
      refine s_aload_n f_276_1454 rfl ?_
      refine s_aload_n f_276_1455 rfl ?_
      refine s_iload_n f_276_1456 rfl ?_
      refine k_iconst (v := 1) f_276_1457 (by decide) ?_
      refine s_iadd f_276_1458 ?_
      refine O_scr (q := 6 * n + 1) f_276_1459 (nI_add (6 * n) 1) (by omega) hL2 ?_
      refine s_aload_n f_276_1460 rfl ?_
      refine s_iload_n f_276_1461 rfl ?_
      refine k_iconst (v := 2) f_276_1462 (by decide) ?_
      refine s_iadd f_276_1463 ?_
      refine O_scr (q := 6 * n + 2) f_276_1464 (nI_add (6 * n) 2) (by omega) hL2 ?_
      refine s_aload_n f_276_1465 rfl ?_
      refine s_iload_n f_276_1466 rfl ?_
      refine k_iconst (v := 3) f_276_1467 (by decide) ?_
      refine s_iadd f_276_1468 ?_
      refine O_scr (q := 6 * n + 3) f_276_1469 (nI_add (6 * n) 3) (by omega) hL2 ?_
      refine L_virt (As := [.int (sx (6 * n + 1)), .int (sx (6 * n + 2)), .int (sx (6 * n + 3))]) f_276_1470 ca_40_151 rfl rfl (obL (by decide)) (by decide) (Nat.le_of_ble_eq_true rfl) ?_
      refine t_cD_sheet e1 ?_
      refine s_aload_n f_276_1473 rfl ?_
      refine s_aload_n f_276_1474 rfl ?_
      refine s_iload_n f_276_1475 rfl ?_
      refine k_iconst (v := 1) f_276_1476 (by decide) ?_
      refine s_iadd f_276_1477 ?_
      refine O_scr (q := 6 * n + 1) f_276_1478 (nI_add (6 * n) 1) (by omega) hL2 ?_
      refine s_aload_n f_276_1479 rfl ?_
      refine s_iload_n f_276_1480 rfl ?_
      refine k_iconst (v := 2) f_276_1481 (by decide) ?_
      refine s_iadd f_276_1482 ?_
      refine O_scr (q := 6 * n + 2) f_276_1483 (nI_add (6 * n) 2) (by omega) hL2 ?_
      refine s_aload_n f_276_1484 rfl ?_
      refine s_iload_n f_276_1485 rfl ?_
      refine k_iconst (v := 3) f_276_1486 (by decide) ?_
      refine s_iadd f_276_1487 ?_
      refine O_scr (q := 6 * n + 3) f_276_1488 (nI_add (6 * n) 3) (by omega) hL2 ?_
      refine L_virt (As := [.int (sx (6 * n + 1)), .int (sx (6 * n + 2)), .int (sx (6 * n + 3))]) f_276_1489 ca_40_154 rfl rfl (obL (by decide)) (by decide) (Nat.le_of_ble_eq_true rfl) ?_
      refine t_rM_sheet e2 ?_
      refine s_icmp_eq 1652 f_276_1492 (by decide) (fun _ => ?_) (fun c => absurd er c)
      exact lw_next (ih _ _ _ _ _ (bc - 0) (bs - 0) (n + 1) hR2 (by omega) (by omega) (by omega) (by omega))
    by_cases ck33 : sx (6 * n + 0) &&& 63 = 33
    · obtain ⟨p, q, e1, e2, er, hR2⟩ := h_put S K T X M (sx (6 * n + 1)) (sx (6 * n + 2)) (sx (6 * n + 3)) hR
      refine s_tabJ (off := 1464) 33 1497 ck33 f_276_33 (by decide) (by decide) (by decide) (by decide) ?_
      refine s_aload_n f_276_1497 rfl ?_
      refine s_aload_n f_276_1498 rfl ?_
      refine s_iload_n f_276_1499 rfl ?_
      refine k_iconst (v := 1) f_276_1500 (by decide) ?_
      refine s_iadd f_276_1501 ?_
      refine O_scr (q := 6 * n + 1) f_276_1502 (nI_add (6 * n) 1) (by omega) hL2 ?_
      refine s_aload_n f_276_1503 rfl ?_
      refine s_iload_n f_276_1504 rfl ?_
      refine k_iconst (v := 2) f_276_1505 (by decide) ?_
      refine s_iadd f_276_1506 ?_
      refine O_scr (q := 6 * n + 2) f_276_1507 (nI_add (6 * n) 2) (by omega) hL2 ?_
      refine s_aload_n f_276_1508 rfl ?_
      refine s_iload_n f_276_1509 rfl ?_
      refine k_iconst (v := 3) f_276_1510 (by decide) ?_
      refine s_iadd f_276_1511 ?_
      refine O_scr (q := 6 * n + 3) f_276_1512 (nI_add (6 * n) 3) (by omega) hL2 ?_
      refine L_virt (As := [.int (sx (6 * n + 1)), .int (sx (6 * n + 2)), .int (sx (6 * n + 3))]) f_276_1513 ca_40_155 rfl rfl (obL (by decide)) (by decide) (Nat.le_of_ble_eq_true rfl) ?_
      refine t_cD_put e1 ?_
      refine s_aload_n f_276_1516 rfl ?_
      refine s_aload_n f_276_1517 rfl ?_
      refine s_iload_n f_276_1518 rfl ?_
      refine k_iconst (v := 1) f_276_1519 (by decide) ?_
      refine s_iadd f_276_1520 ?_
      refine O_scr (q := 6 * n + 1) f_276_1521 (nI_add (6 * n) 1) (by omega) hL2 ?_
      refine s_aload_n f_276_1522 rfl ?_
      refine s_iload_n f_276_1523 rfl ?_
      refine k_iconst (v := 2) f_276_1524 (by decide) ?_
      refine s_iadd f_276_1525 ?_
      refine O_scr (q := 6 * n + 2) f_276_1526 (nI_add (6 * n) 2) (by omega) hL2 ?_
      refine s_aload_n f_276_1527 rfl ?_
      refine s_iload_n f_276_1528 rfl ?_
      refine k_iconst (v := 3) f_276_1529 (by decide) ?_
      refine s_iadd f_276_1530 ?_
      refine O_scr (q := 6 * n + 3) f_276_1531 (nI_add (6 * n) 3) (by omega) hL2 ?_
      refine L_virt (As := [.int (sx (6 * n + 1)), .int (sx (6 * n + 2)), .int (sx (6 * n + 3))]) f_276_1532 ca_40_158 rfl rfl (obL (by decide)) (by decide) (Nat.le_of_ble_eq_true rfl) ?_
      refine t_rM_put e2 ?_
      refine s_icmp_eq 1652 f_276_1535 (by decide) (fun _ => ?_) (fun c => absurd er c)
      exact lw_next (ih _ _ _ _ _ (bc - 0) (bs - 0) (n + 1) hR2 (by omega) (by omega) (by omega) (by omega))
    by_cases ck34 : sx (6 * n + 0) &&& 63 = 34
    · obtain ⟨p, q, e1, e2, er, hR2⟩ := h_copy S K T X M (sx (6 * n + 1)) (sx (6 * n + 2)) (sx (6 * n + 3)) (sx (6 * n + 4)) (sx (6 * n + 5)) hR
      refine s_tabJ (off := 1507) 34 1540 ck34 f_276_33 (by decide) (by decide) (by decide) (by decide) ?_
      refine s_aload_n f_276_1540 rfl ?_
      refine s_aload_n f_276_1541 rfl ?_
      refine s_iload_n f_276_1542 rfl ?_
      refine k_iconst (v := 1) f_276_1543 (by decide) ?_
      refine s_iadd f_276_1544 ?_
      refine O_scr (q := 6 * n + 1) f_276_1545 (nI_add (6 * n) 1) (by omega) hL2 ?_
      refine s_aload_n f_276_1546 rfl ?_
      refine s_iload_n f_276_1547 rfl ?_
      refine k_iconst (v := 2) f_276_1548 (by decide) ?_
      refine s_iadd f_276_1549 ?_
      refine O_scr (q := 6 * n + 2) f_276_1550 (nI_add (6 * n) 2) (by omega) hL2 ?_
      refine s_aload_n f_276_1551 rfl ?_
      refine s_iload_n f_276_1552 rfl ?_
      refine k_iconst (v := 3) f_276_1553 (by decide) ?_
      refine s_iadd f_276_1554 ?_
      refine O_scr (q := 6 * n + 3) f_276_1555 (nI_add (6 * n) 3) (by omega) hL2 ?_
      refine s_aload_n f_276_1556 rfl ?_
      refine s_iload_n f_276_1557 rfl ?_
      refine k_iconst (v := 4) f_276_1558 (by decide) ?_
      refine s_iadd f_276_1559 ?_
      refine O_scr (q := 6 * n + 4) f_276_1560 (nI_add (6 * n) 4) (by omega) hL2 ?_
      refine s_aload_n f_276_1561 rfl ?_
      refine s_iload_n f_276_1562 rfl ?_
      refine k_iconst (v := 5) f_276_1563 (by decide) ?_
      refine s_iadd f_276_1564 ?_
      refine O_scr (q := 6 * n + 5) f_276_1565 (nI_add (6 * n) 5) (by omega) hL2 ?_
      refine L_virt (As := [.int (sx (6 * n + 1)), .int (sx (6 * n + 2)), .int (sx (6 * n + 3)), .int (sx (6 * n + 4)), .int (sx (6 * n + 5))]) f_276_1566 ca_40_159 rfl rfl (obL (by decide)) (by decide) (Nat.le_of_ble_eq_true rfl) ?_
      refine t_cD_copy e1 ?_
      refine s_aload_n f_276_1569 rfl ?_
      refine s_aload_n f_276_1570 rfl ?_
      refine s_iload_n f_276_1571 rfl ?_
      refine k_iconst (v := 1) f_276_1572 (by decide) ?_
      refine s_iadd f_276_1573 ?_
      refine O_scr (q := 6 * n + 1) f_276_1574 (nI_add (6 * n) 1) (by omega) hL2 ?_
      refine s_aload_n f_276_1575 rfl ?_
      refine s_iload_n f_276_1576 rfl ?_
      refine k_iconst (v := 2) f_276_1577 (by decide) ?_
      refine s_iadd f_276_1578 ?_
      refine O_scr (q := 6 * n + 2) f_276_1579 (nI_add (6 * n) 2) (by omega) hL2 ?_
      refine s_aload_n f_276_1580 rfl ?_
      refine s_iload_n f_276_1581 rfl ?_
      refine k_iconst (v := 3) f_276_1582 (by decide) ?_
      refine s_iadd f_276_1583 ?_
      refine O_scr (q := 6 * n + 3) f_276_1584 (nI_add (6 * n) 3) (by omega) hL2 ?_
      refine s_aload_n f_276_1585 rfl ?_
      refine s_iload_n f_276_1586 rfl ?_
      refine k_iconst (v := 4) f_276_1587 (by decide) ?_
      refine s_iadd f_276_1588 ?_
      refine O_scr (q := 6 * n + 4) f_276_1589 (nI_add (6 * n) 4) (by omega) hL2 ?_
      refine s_aload_n f_276_1590 rfl ?_
      refine s_iload_n f_276_1591 rfl ?_
      refine k_iconst (v := 5) f_276_1592 (by decide) ?_
      refine s_iadd f_276_1593 ?_
      refine O_scr (q := 6 * n + 5) f_276_1594 (nI_add (6 * n) 5) (by omega) hL2 ?_
      refine L_virt (As := [.int (sx (6 * n + 1)), .int (sx (6 * n + 2)), .int (sx (6 * n + 3)), .int (sx (6 * n + 4)), .int (sx (6 * n + 5))]) f_276_1595 ca_40_162 rfl rfl (obL (by decide)) (by decide) (Nat.le_of_ble_eq_true rfl) ?_
      refine t_rM_copy e2 ?_
      refine s_icmp_eq 1652 f_276_1598 (by decide) (fun _ => ?_) (fun c => absurd er c)
      exact lw_next (ih _ _ _ _ _ (bc - 0) (bs - 0) (n + 1) hR2 (by omega) (by omega) (by omega) (by omega))
    by_cases ck35 : sx (6 * n + 0) &&& 63 = 35
    · obtain ⟨p, q, e1, e2, er, hR2⟩ := h_image S K T X M  hR
      refine s_tabJ (off := 1570) 35 1603 ck35 f_276_33 (by decide) (by decide) (by decide) (by decide) ?_
      refine s_aload_n f_276_1603 rfl ?_
      refine L_virt (As := []) f_276_1604 ca_40_163 rfl rfl (obL (by decide)) (by decide) (Nat.le_of_ble_eq_true rfl) ?_
      refine t_cD_image e1 ?_
      refine s_aload_n f_276_1607 rfl ?_
      refine L_virt (As := []) f_276_1608 ca_40_167 rfl rfl (obL (by decide)) (by decide) (Nat.le_of_ble_eq_true rfl) ?_
      refine t_rM_image e2 ?_
      refine s_icmp_eq 1652 f_276_1611 (by decide) (fun _ => ?_) (fun c => absurd er c)
      exact lw_next (ih _ _ _ _ _ (bc - 0) (bs - 0) (n + 1) hR2 (by omega) (by omega) (by omega) (by omega))
    by_cases ck36 : sx (6 * n + 0) &&& 63 = 36
    · obtain ⟨p, q, e1, e2, er, hR2⟩ := h_restore S K T X M  hR
      refine s_tabJ (off := 1583) 36 1616 ck36 f_276_33 (by decide) (by decide) (by decide) (by decide) ?_
      refine s_aload_n f_276_1616 rfl ?_
      refine L_virt (As := []) f_276_1617 ca_40_168 rfl rfl (obL (by decide)) (by decide) (Nat.le_of_ble_eq_true rfl) ?_
      refine t_cD_restore e1 ?_
      refine s_aload_n f_276_1620 rfl ?_
      refine L_virt (As := []) f_276_1621 ca_40_171 rfl rfl (obL (by decide)) (by decide) (Nat.le_of_ble_eq_true rfl) ?_
      refine t_rM_restore e2 ?_
      refine s_icmp_eq 1652 f_276_1624 (by decide) (fun _ => ?_) (fun c => absurd er c)
      exact lw_next (ih _ _ _ _ _ (bc - 0) (bs - 0) (n + 1) hR2 (by omega) (by omega) (by omega) (by omega))
    by_cases ck37 : sx (6 * n + 0) &&& 63 = 37
    · obtain ⟨p, q, e1, e2, er, hR2⟩ := h_count S K T X M (sx (6 * n + 1)) hR
      refine s_tabJ (off := 1596) 37 1629 ck37 f_276_33 (by decide) (by decide) (by decide) (by decide) ?_
      refine s_aload_n f_276_1629 rfl ?_
      refine s_aload_n f_276_1630 rfl ?_
      refine s_iload_n f_276_1631 rfl ?_
      refine k_iconst (v := 1) f_276_1632 (by decide) ?_
      refine s_iadd f_276_1633 ?_
      refine O_scr (q := 6 * n + 1) f_276_1634 (nI_add (6 * n) 1) (by omega) hL2 ?_
      refine L_virt (As := [.int (sx (6 * n + 1))]) f_276_1635 ca_40_172 rfl rfl (obL (by decide)) (by decide) (Nat.le_of_ble_eq_true rfl) ?_
      refine t_cD_count e1 ?_
      refine s_aload_n f_276_1638 rfl ?_
      refine s_aload_n f_276_1639 rfl ?_
      refine s_iload_n f_276_1640 rfl ?_
      refine k_iconst (v := 1) f_276_1641 (by decide) ?_
      refine s_iadd f_276_1642 ?_
      refine O_scr (q := 6 * n + 1) f_276_1643 (nI_add (6 * n) 1) (by omega) hL2 ?_
      refine L_virt (As := [.int (sx (6 * n + 1))]) f_276_1644 ca_40_175 rfl rfl (obL (by decide)) (by decide) (Nat.le_of_ble_eq_true rfl) ?_
      refine t_rM_count e2 ?_
      refine s_icmp_eq 1652 f_276_1647 (by decide) (fun _ => ?_) (fun c => absurd er c)
      exact lw_next (ih _ _ _ _ _ (bc - 0) (bs - 0) (n + 1) hR2 (by omega) (by omega) (by omega) (by omega))
    refine s_tableOut 1652 f_276_33 (sw_out (lo := 0) (n := 37) (by decide) (by decide) (fun j hj e => ?_)) (by decide) ?_
    · have hj2 : j = 0 ∨ j = 1 ∨ j = 2 ∨ j = 3 ∨ j = 4 ∨ j = 5 ∨ j = 6 ∨ j = 7 ∨ j = 8 ∨ j = 9 ∨ j = 10 ∨ j = 11 ∨ j = 12 ∨ j = 13 ∨ j = 14 ∨ j = 15 ∨ j = 16 ∨ j = 17 ∨ j = 18 ∨ j = 19 ∨ j = 20 ∨ j = 21 ∨ j = 22 ∨ j = 23 ∨ j = 24 ∨ j = 25 ∨ j = 26 ∨ j = 27 ∨ j = 28 ∨ j = 29 ∨ j = 30 ∨ j = 31 ∨ j = 32 ∨ j = 33 ∨ j = 34 ∨ j = 35 ∨ j = 36 ∨ j = 37 := by omega
      rcases hj2 with rfl | rfl | rfl | rfl | rfl | rfl | rfl | rfl | rfl | rfl | rfl | rfl | rfl | rfl | rfl | rfl | rfl | rfl | rfl | rfl | rfl | rfl | rfl | rfl | rfl | rfl | rfl | rfl | rfl | rfl | rfl | rfl | rfl | rfl | rfl | rfl | rfl | rfl
      · exact ck0 (e.trans (by decide))
      · exact ck1 (e.trans (by decide))
      · exact ck2 (e.trans (by decide))
      · exact ck3 (e.trans (by decide))
      · exact ck4 (e.trans (by decide))
      · exact ck5 (e.trans (by decide))
      · exact ck6 (e.trans (by decide))
      · exact ck7 (e.trans (by decide))
      · exact ck8 (e.trans (by decide))
      · exact ck9 (e.trans (by decide))
      · exact ck10 (e.trans (by decide))
      · exact ck11 (e.trans (by decide))
      · exact ck12 (e.trans (by decide))
      · exact ck13 (e.trans (by decide))
      · exact ck14 (e.trans (by decide))
      · exact ck15 (e.trans (by decide))
      · exact ck16 (e.trans (by decide))
      · exact ck17 (e.trans (by decide))
      · exact ck18 (e.trans (by decide))
      · exact ck19 (e.trans (by decide))
      · exact ck20 (e.trans (by decide))
      · exact ck21 (e.trans (by decide))
      · exact ck22 (e.trans (by decide))
      · exact ck23 (e.trans (by decide))
      · exact ck24 (e.trans (by decide))
      · exact ck25 (e.trans (by decide))
      · exact ck26 (e.trans (by decide))
      · exact ck27 (e.trans (by decide))
      · exact ck28 (e.trans (by decide))
      · exact ck29 (e.trans (by decide))
      · exact ck30 (e.trans (by decide))
      · exact ck31 (e.trans (by decide))
      · exact ck32 (e.trans (by decide))
      · exact ck33 (e.trans (by decide))
      · exact ck34 (e.trans (by decide))
      · exact ck35 (e.trans (by decide))
      · exact ck36 (e.trans (by decide))
      · exact ck37 (e.trans (by decide))
    exact lw_next (ih _ _ _ _ _ bc bs (n + 1) hR (by omega) (by omega) (by omega) (by omega))
