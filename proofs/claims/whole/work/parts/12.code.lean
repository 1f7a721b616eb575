theorem ca_0_69 : cal 0 69 = some (0, 69, 6, 0, 2) := by decide +kernel
theorem ca_0_75 : cal 0 75 = some (0, 75, 1, 12, 3) := by decide +kernel
theorem ca_0_79 : cal 0 79 = some (0, 79, 0, 13, 2) := by decide +kernel
theorem ca_0_84 : cal 0 84 = some (0, 84, 0, 15, 1) := by decide +kernel
theorem ca_0_96 : cal 0 96 = some (0, 96, 0, 16, 4) := by decide +kernel
theorem ca_0_102 : cal 0 102 = some (0, 102, 0, 14, 1) := by decide +kernel
theorem ca_0_115 : cal 0 115 = some (0, 115, 0, 20, 0) := by decide +kernel
theorem ca_0_135 : cal 0 135 = some (0, 135, 0, 22, 1) := by decide +kernel
theorem ca_0_138 : cal 0 138 = some (0, 138, 0, 25, 1) := by decide +kernel
theorem ca_0_144 : cal 0 144 = some (0, 144, 0, 26, 1) := by decide +kernel
theorem ca_0_154 : cal 0 154 = some (0, 154, 0, 29, 3) := by decide +kernel
theorem ca_0_159 : cal 0 159 = some (0, 159, 0, 31, 1) := by decide +kernel
theorem ca_0_172 : cal 0 172 = some (0, 172, 1, 27, 1) := by decide +kernel
theorem ca_0_176 : cal 0 176 = some (0, 176, 0, 33, 1) := by decide +kernel
theorem ca_0_179 : cal 0 179 = some (0, 179, 0, 37, 2) := by decide +kernel
theorem ca_0_185 : cal 0 185 = some (0, 185, 0, 40, 0) := by decide +kernel
theorem ca_0_191 : cal 0 191 = some (0, 191, 0, 41, 0) := by decide +kernel
theorem ca_0_195 : cal 0 195 = some (0, 195, 0, 42, 6) := by decide +kernel
theorem ca_0_200 : cal 0 200 = some (0, 200, 0, 43, 1) := by decide +kernel
theorem ca_0_203 : cal 0 203 = some (0, 203, 0, 47, 1) := by decide +kernel
theorem ca_0_213 : cal 0 213 = some (0, 213, 1, 45, 2) := by decide +kernel
theorem ca_0_223 : cal 0 223 = some (0, 223, 0, 24, 0) := by decide +kernel
theorem ca_0_230 : cal 0 230 = some (0, 230, 0, 50, 2) := by decide +kernel
theorem ca_0_234 : cal 0 234 = some (0, 234, 0, 52, 2) := by decide +kernel
theorem ca_0_255 : cal 0 255 = some (0, 255, 1, 56, 1) := by decide +kernel
theorem ca_0_262 : cal 0 262 = some (0, 262, 1, 58, 1) := by decide +kernel
theorem ca_0_265 : cal 0 265 = some (0, 265, 0, 59, 2) := by decide +kernel
theorem ca_0_268 : cal 0 268 = some (0, 268, 0, 62, 2) := by decide +kernel
theorem ca_0_275 : cal 0 275 = some (0, 275, 0, 64, 0) := by decide +kernel
theorem ca_0_282 : cal 0 282 = some (0, 282, 0, 105, 0) := by decide +kernel
theorem ca_0_293 : cal 0 293 = some (0, 293, 0, 109, 3) := by decide +kernel
theorem ca_0_298 : cal 0 298 = some (0, 298, 0, 111, 2) := by decide +kernel
theorem ca_0_301 : cal 0 301 = some (0, 301, 0, 113, 3) := by decide +kernel
theorem ca_0_304 : cal 0 304 = some (0, 304, 0, 114, 4) := by decide +kernel
theorem ca_0_308 : cal 0 308 = some (0, 308, 0, 126, 3) := by decide +kernel
theorem ca_0_312 : cal 0 312 = some (0, 312, 0, 128, 3) := by decide +kernel
theorem ca_0_316 : cal 0 316 = some (0, 316, 1, 131, 1) := by decide +kernel
theorem ca_0_319 : cal 0 319 = some (0, 319, 0, 132, 1) := by decide +kernel
theorem ca_0_322 : cal 0 322 = some (0, 322, 1, 140, 1) := by decide +kernel
theorem ca_0_325 : cal 0 325 = some (0, 325, 0, 141, 0) := by decide +kernel
theorem ca_0_332 : cal 0 332 = some (0, 332, 0, 143, 1) := by decide +kernel
theorem ca_0_335 : cal 0 335 = some (0, 335, 1, 146, 4) := by decide +kernel
theorem ca_0_339 : cal 0 339 = some (0, 339, 0, 148, 1) := by decide +kernel
theorem ca_0_343 : cal 0 343 = some (0, 343, 0, 150, 3) := by decide +kernel
theorem ca_0_347 : cal 0 347 = some (0, 347, 0, 157, 3) := by decide +kernel
theorem ca_0_350 : cal 0 350 = some (0, 350, 1, 147, 1) := by decide +kernel
theorem ca_0_353 : cal 0 353 = some (0, 353, 0, 159, 4) := by decide +kernel
theorem ca_0_357 : cal 0 357 = some (0, 357, 0, 161, 2) := by decide +kernel
theorem ca_0_360 : cal 0 360 = some (0, 360, 0, 163, 2) := by decide +kernel
theorem ca_0_366 : cal 0 366 = some (0, 366, 0, 165, 2) := by decide +kernel
theorem ca_0_369 : cal 0 369 = some (0, 369, 4, 0, 5) := by decide +kernel
theorem ca_0_375 : cal 0 375 = some (0, 375, 0, 167, 1) := by decide +kernel
theorem ca_0_378 : cal 0 378 = some (0, 378, 0, 173, 0) := by decide +kernel
theorem ca_0_381 : cal 0 381 = some (0, 381, 0, 174, 0) := by decide +kernel
theorem ca_0_384 : cal 0 384 = some (0, 384, 0, 175, 0) := by decide +kernel
theorem ca_1_30 : cal 1 30 = some (1, 30, 0, 115, 5) := by decide +kernel
theorem ca_1_34 : cal 1 34 = some (1, 34, 1, 116, 2) := by decide +kernel
theorem ca_1_40 : cal 1 40 = some (1, 40, 0, 59, 2) := by decide +kernel
theorem ca_1_61 : cal 1 61 = some (1, 61, 11, 27, 1) := by decide +kernel
theorem ca_1_65 : cal 1 65 = some (1, 65, 0, 118, 1) := by decide +kernel
theorem ca_1_69 : cal 1 69 = some (1, 69, 0, 119, 3) := by decide +kernel
theorem ca_1_76 : cal 1 76 = some (1, 76, 0, 33, 1) := by decide +kernel
theorem ca_1_80 : cal 1 80 = some (1, 80, 0, 117, 2) := by decide +kernel
theorem ca_1_90 : cal 1 90 = some (1, 90, 0, 24, 0) := by decide +kernel
theorem ca_1_112 : cal 1 112 = some (1, 112, 0, 31, 1) := by decide +kernel
theorem ca_1_126 : cal 1 126 = some (1, 126, 0, 111, 2) := by decide +kernel
theorem ca_1_139 : cal 1 139 = some (1, 139, 0, 120, 1) := by decide +kernel
theorem ca_1_146 : cal 1 146 = some (1, 146, 6, 0, 2) := by decide +kernel
theorem ca_1_151 : cal 1 151 = some (1, 151, 0, 121, 1) := by decide +kernel
theorem ca_1_154 : cal 1 154 = some (1, 154, 0, 122, 1) := by decide +kernel
theorem ca_1_157 : cal 1 157 = some (1, 157, 1, 123, 3) := by decide +kernel
theorem ca_1_161 : cal 1 161 = some (1, 161, 11, 12, 3) := by decide +kernel
theorem ca_2_23 : cal 2 23 = some (2, 23, 0, 29, 3) := by decide +kernel
theorem ca_3_74 : cal 3 74 = some (3, 74, 4, 0, 5) := by decide +kernel
theorem ca_3_80 : cal 3 80 = some (3, 80, 0, 168, 1) := by decide +kernel
theorem ca_3_84 : cal 3 84 = some (3, 84, 0, 169, 1) := by decide +kernel
theorem ca_3_87 : cal 3 87 = some (3, 87, 0, 170, 1) := by decide +kernel
theorem ca_3_100 : cal 3 100 = some (3, 100, 0, 109, 3) := by decide +kernel
theorem ca_3_104 : cal 3 104 = some (3, 104, 11, 12, 3) := by decide +kernel
theorem ca_3_108 : cal 3 108 = some (3, 108, 0, 14, 1) := by decide +kernel
theorem ca_3_112 : cal 3 112 = some (3, 112, 0, 34, 2) := by decide +kernel
theorem ca_3_116 : cal 3 116 = some (3, 116, 0, 20, 0) := by decide +kernel
theorem ca_3_120 : cal 3 120 = some (3, 120, 0, 35, 1) := by decide +kernel
theorem ca_3_123 : cal 3 123 = some (3, 123, 0, 38, 3) := by decide +kernel
theorem ca_3_127 : cal 3 127 = some (3, 127, 11, 27, 1) := by decide +kernel
theorem ca_3_134 : cal 3 134 = some (3, 134, 6, 0, 2) := by decide +kernel
theorem ca_3_139 : cal 3 139 = some (3, 139, 0, 41, 0) := by decide +kernel
theorem ca_3_146 : cal 3 146 = some (3, 146, 0, 44, 0) := by decide +kernel
theorem ca_3_149 : cal 3 149 = some (3, 149, 0, 31, 1) := by decide +kernel
theorem ca_3_170 : cal 3 170 = some (3, 170, 0, 51, 2) := by decide +kernel
theorem ca_3_177 : cal 3 177 = some (3, 177, 0, 24, 0) := by decide +kernel
theorem ca_3_181 : cal 3 181 = some (3, 181, 0, 52, 2) := by decide +kernel
theorem ca_3_185 : cal 3 185 = some (3, 185, 0, 60, 2) := by decide +kernel
theorem ca_3_188 : cal 3 188 = some (3, 188, 0, 23, 0) := by decide +kernel
theorem ca_3_191 : cal 3 191 = some (3, 191, 0, 144, 2) := by decide +kernel
theorem ca_5_42 : cal 5 42 = some (5, 42, 0, 42, 6) := by decide +kernel
theorem ca_5_46 : cal 5 46 = some (5, 46, 0, 24, 0) := by decide +kernel
theorem ca_5_50 : cal 5 50 = some (5, 50, 11, 45, 2) := by decide +kernel
theorem ca_6_41 : cal 6 41 = some (6, 41, 0, 16, 4) := by decide +kernel
theorem ca_7_40 : cal 7 40 = some (7, 40, 0, 65, 0) := by decide +kernel
theorem ca_7_43 : cal 7 43 = some (7, 43, 0, 98, 1) := by decide +kernel
theorem ca_7_47 : cal 7 47 = some (7, 47, 0, 99, 1) := by decide +kernel
theorem ca_7_61 : cal 7 61 = some (7, 61, 0, 66, 1) := by decide +kernel
theorem ca_7_65 : cal 7 65 = some (7, 65, 0, 69, 2) := by decide +kernel
theorem ca_7_69 : cal 7 69 = some (7, 69, 0, 67, 1) := by decide +kernel
theorem ca_7_72 : cal 7 72 = some (7, 72, 0, 68, 1) := by decide +kernel
theorem ca_7_75 : cal 7 75 = some (7, 75, 0, 70, 2) := by decide +kernel
theorem ca_7_78 : cal 7 78 = some (7, 78, 0, 82, 2) := by decide +kernel
theorem ca_7_83 : cal 7 83 = some (7, 83, 0, 83, 1) := by decide +kernel
theorem ca_7_90 : cal 7 90 = some (7, 90, 0, 71, 0) := by decide +kernel
theorem ca_7_93 : cal 7 93 = some (7, 93, 0, 73, 1) := by decide +kernel
theorem ca_7_97 : cal 7 97 = some (7, 97, 11, 12, 3) := by decide +kernel
theorem ca_7_101 : cal 7 101 = some (7, 101, 0, 100, 1) := by decide +kernel
theorem ca_7_104 : cal 7 104 = some (7, 104, 0, 102, 1) := by decide +kernel
theorem ca_7_108 : cal 7 108 = some (7, 108, 0, 101, 1) := by decide +kernel
theorem ca_7_111 : cal 7 111 = some (7, 111, 0, 103, 1) := by decide +kernel
theorem ca_7_114 : cal 7 114 = some (7, 114, 0, 104, 1) := by decide +kernel
theorem ca_8_37 : cal 8 37 = some (8, 37, 0, 51, 2) := by decide +kernel
theorem ca_8_48 : cal 8 48 = some (8, 48, 0, 20, 0) := by decide +kernel
theorem ca_8_54 : cal 8 54 = some (8, 54, 0, 133, 1) := by decide +kernel
theorem ca_8_76 : cal 8 76 = some (8, 76, 0, 136, 1) := by decide +kernel
theorem ca_8_80 : cal 8 80 = some (8, 80, 0, 60, 2) := by decide +kernel
theorem ca_8_84 : cal 8 84 = some (8, 84, 0, 137, 0) := by decide +kernel
theorem ca_8_90 : cal 8 90 = some (8, 90, 7, 0, 2) := by decide +kernel
theorem ca_8_95 : cal 8 95 = some (8, 95, 0, 134, 2) := by decide +kernel
theorem ca_8_105 : cal 8 105 = some (8, 105, 0, 135, 2) := by decide +kernel
theorem ca_8_108 : cal 8 108 = some (8, 108, 6, 0, 2) := by decide +kernel
theorem ca_8_111 : cal 8 111 = some (8, 111, 0, 41, 0) := by decide +kernel
theorem ca_8_115 : cal 8 115 = some (8, 115, 0, 42, 6) := by decide +kernel
theorem ca_8_122 : cal 8 122 = some (8, 122, 0, 43, 1) := by decide +kernel
theorem ca_8_125 : cal 8 125 = some (8, 125, 0, 59, 2) := by decide +kernel
theorem ca_8_138 : cal 8 138 = some (8, 138, 0, 24, 0) := by decide +kernel
theorem ca_8_142 : cal 8 142 = some (8, 142, 0, 50, 2) := by decide +kernel
theorem ca_8_152 : cal 8 152 = some (8, 152, 0, 31, 1) := by decide +kernel
theorem ca_8_159 : cal 8 159 = some (8, 159, 0, 52, 2) := by decide +kernel
theorem ca_8_162 : cal 8 162 = some (8, 162, 0, 114, 4) := by decide +kernel
theorem ca_8_171 : cal 8 171 = some (8, 171, 0, 33, 1) := by decide +kernel
theorem ca_8_174 : cal 8 174 = some (8, 174, 0, 126, 3) := by decide +kernel
theorem ca_8_178 : cal 8 178 = some (8, 178, 11, 138, 1) := by decide +kernel
theorem ca_9_20 : cal 9 20 = some (9, 20, 1, 116, 2) := by decide +kernel
theorem ca_11_19 : cal 11 19 = some (11, 19, 1, 149, 2) := by decide +kernel
theorem ca_11_25 : cal 11 25 = some (11, 25, 11, 12, 3) := by decide +kernel
theorem ca_11_29 : cal 11 29 = some (11, 29, 0, 151, 3) := by decide +kernel
theorem ca_11_33 : cal 11 33 = some (11, 33, 1, 152, 2) := by decide +kernel
theorem ca_11_37 : cal 11 37 = some (11, 37, 0, 153, 4) := by decide +kernel
theorem ca_11_41 : cal 11 41 = some (11, 41, 6, 0, 2) := by decide +kernel
theorem ca_11_46 : cal 11 46 = some (11, 46, 1, 154, 1) := by decide +kernel
theorem ca_11_50 : cal 11 50 = some (11, 50, 1, 155, 1) := by decide +kernel
theorem ca_11_53 : cal 11 53 = some (11, 53, 0, 150, 3) := by decide +kernel
theorem ca_11_65 : cal 11 65 = some (11, 65, 11, 131, 1) := by decide +kernel
theorem ca_11_69 : cal 11 69 = some (11, 69, 7, 0, 2) := by decide +kernel
theorem ca_12_69 : cal 12 69 = some (12, 69, 1, 178, 3) := by decide +kernel
theorem ca_12_73 : cal 12 73 = some (12, 73, 0, 184, 2) := by decide +kernel
theorem ca_12_78 : cal 12 78 = some (12, 78, 0, 179, 1) := by decide +kernel
theorem ca_12_83 : cal 12 83 = some (12, 83, 0, 180, 3) := by decide +kernel
theorem ca_12_87 : cal 12 87 = some (12, 87, 0, 182, 1) := by decide +kernel
theorem ca_12_91 : cal 12 91 = some (12, 91, 0, 186, 1) := by decide +kernel
theorem ca_12_95 : cal 12 95 = some (12, 95, 0, 189, 1) := by decide +kernel
theorem ca_12_98 : cal 12 98 = some (12, 98, 0, 190, 2) := by decide +kernel
theorem ca_12_101 : cal 12 101 = some (12, 101, 0, 191, 1) := by decide +kernel
theorem ca_12_104 : cal 12 104 = some (12, 104, 0, 188, 2) := by decide +kernel
theorem ca_12_107 : cal 12 107 = some (12, 107, 0, 192, 3) := by decide +kernel
theorem ca_12_111 : cal 12 111 = some (12, 111, 0, 193, 2) := by decide +kernel
theorem ca_12_114 : cal 12 114 = some (12, 114, 0, 196, 1) := by decide +kernel
theorem ca_12_117 : cal 12 117 = some (12, 117, 0, 200, 2) := by decide +kernel
theorem ca_12_121 : cal 12 121 = some (12, 121, 0, 199, 1) := by decide +kernel
theorem ca_12_125 : cal 12 125 = some (12, 125, 0, 201, 1) := by decide +kernel
theorem ca_12_128 : cal 12 128 = some (12, 128, 0, 198, 1) := by decide +kernel
theorem ca_12_132 : cal 12 132 = some (12, 132, 0, 206, 3) := by decide +kernel
theorem ca_12_136 : cal 12 136 = some (12, 136, 1, 204, 1) := by decide +kernel
theorem ca_12_140 : cal 12 140 = some (12, 140, 0, 205, 7) := by decide +kernel
theorem ca_12_144 : cal 12 144 = some (12, 144, 0, 208, 1) := by decide +kernel
theorem ca_12_147 : cal 12 147 = some (12, 147, 1, 209, 2) := by decide +kernel
theorem ca_12_151 : cal 12 151 = some (12, 151, 0, 213, 2) := by decide +kernel
theorem ca_12_155 : cal 12 155 = some (12, 155, 0, 214, 2) := by decide +kernel
theorem ca_12_158 : cal 12 158 = some (12, 158, 0, 212, 2) := by decide +kernel
theorem ca_12_161 : cal 12 161 = some (12, 161, 1, 218, 1) := by decide +kernel
theorem ca_12_164 : cal 12 164 = some (12, 164, 1, 220, 1) := by decide +kernel
theorem ca_12_167 : cal 12 167 = some (12, 167, 0, 221, 2) := by decide +kernel
theorem ca_12_179 : cal 12 179 = some (12, 179, 0, 226, 1) := by decide +kernel
theorem ca_12_185 : cal 12 185 = some (12, 185, 1, 227, 1) := by decide +kernel
theorem ca_12_188 : cal 12 188 = some (12, 188, 0, 228, 0) := by decide +kernel
theorem ca_12_192 : cal 12 192 = some (12, 192, 1, 229, 1) := by decide +kernel
theorem ca_12_198 : cal 12 198 = some (12, 198, 1, 230, 1) := by decide +kernel
theorem ca_12_207 : cal 12 207 = some (12, 207, 1, 235, 1) := by decide +kernel
theorem ca_12_210 : cal 12 210 = some (12, 210, 0, 233, 1) := by decide +kernel
theorem ca_12_213 : cal 12 213 = some (12, 213, 0, 225, 0) := by decide +kernel
theorem ca_12_216 : cal 12 216 = some (12, 216, 0, 232, 1) := by decide +kernel
theorem ca_12_219 : cal 12 219 = some (12, 219, 0, 234, 1) := by decide +kernel
theorem ca_12_222 : cal 12 222 = some (12, 222, 0, 236, 0) := by decide +kernel
theorem ca_12_226 : cal 12 226 = some (12, 226, 0, 231, 1) := by decide +kernel
theorem ca_12_229 : cal 12 229 = some (12, 229, 0, 224, 0) := by decide +kernel
theorem ca_12_232 : cal 12 232 = some (12, 232, 1, 245, 3) := by decide +kernel
theorem ca_12_235 : cal 12 235 = some (12, 235, 0, 239, 2) := by decide +kernel
theorem ca_12_238 : cal 12 238 = some (12, 238, 0, 244, 2) := by decide +kernel
theorem ca_12_241 : cal 12 241 = some (12, 241, 0, 243, 6) := by decide +kernel
theorem ca_12_245 : cal 12 245 = some (12, 245, 0, 241, 3) := by decide +kernel
theorem ca_12_248 : cal 12 248 = some (12, 248, 0, 242, 5) := by decide +kernel
theorem ca_12_252 : cal 12 252 = some (12, 252, 0, 248, 3) := by decide +kernel
theorem ca_12_255 : cal 12 255 = some (12, 255, 0, 255, 2) := by decide +kernel
theorem ca_12_258 : cal 12 258 = some (12, 258, 0, 253, 1) := by decide +kernel
theorem ca_12_261 : cal 12 261 = some (12, 261, 0, 254, 0) := by decide +kernel
theorem ca_12_264 : cal 12 264 = some (12, 264, 0, 256, 0) := by decide +kernel
theorem ca_12_267 : cal 12 267 = some (12, 267, 0, 257, 0) := by decide +kernel
theorem ca_12_270 : cal 12 270 = some (12, 270, 0, 252, 1) := by decide +kernel
theorem ca_12_273 : cal 12 273 = some (12, 273, 1, 259, 1) := by decide +kernel
theorem ca_12_276 : cal 12 276 = some (12, 276, 1, 264, 3) := by decide +kernel
theorem ca_12_279 : cal 12 279 = some (12, 279, 0, 266, 4) := by decide +kernel
theorem ca_12_283 : cal 12 283 = some (12, 283, 1, 267, 2) := by decide +kernel
theorem ca_12_286 : cal 12 286 = some (12, 286, 0, 265, 3) := by decide +kernel
theorem ca_12_289 : cal 12 289 = some (12, 289, 1, 262, 4) := by decide +kernel
theorem ca_12_293 : cal 12 293 = some (12, 293, 0, 263, 4) := by decide +kernel
theorem f_0_0 : decode (mB 0) 0 = .ok (.aload_n 0, 1) := by decide +kernel
theorem f_0_1 : decode (mB 0) 1 = .ok (.invokespecial 1, 3) := by decide +kernel
theorem f_0_4 : decode (mB 0) 4 = .ok (.aload_n 0, 1) := by decide +kernel
theorem f_0_5 : decode (mB 0) 5 = .ok (.new 7, 3) := by decide +kernel
theorem f_0_8 : decode (mB 0) 8 = .ok (.dup, 1) := by decide +kernel
theorem f_0_9 : decode (mB 0) 9 = .ok (.invokespecial 9, 3) := by decide +kernel
theorem f_0_12 : decode (mB 0) 12 = .ok (.putfield 10, 3) := by decide +kernel
theorem f_0_15 : decode (mB 0) 15 = .ok (.aload_n 0, 1) := by decide +kernel
theorem f_0_16 : decode (mB 0) 16 = .ok (.new 7, 3) := by decide +kernel
theorem f_0_19 : decode (mB 0) 19 = .ok (.dup, 1) := by decide +kernel
theorem f_0_20 : decode (mB 0) 20 = .ok (.invokespecial 9, 3) := by decide +kernel
theorem f_0_23 : decode (mB 0) 23 = .ok (.putfield 16, 3) := by decide +kernel
theorem f_0_26 : decode (mB 0) 26 = .ok (.aload_n 0, 1) := by decide +kernel
theorem f_0_27 : decode (mB 0) 27 = .ok (.new 19, 3) := by decide +kernel
theorem f_0_30 : decode (mB 0) 30 = .ok (.dup, 1) := by decide +kernel
theorem f_0_31 : decode (mB 0) 31 = .ok (.aload_n 0, 1) := by decide +kernel
theorem f_0_32 : decode (mB 0) 32 = .ok (.getfield 10, 3) := by decide +kernel
theorem f_0_35 : decode (mB 0) 35 = .ok (.invokespecial 21, 3) := by decide +kernel
theorem f_0_38 : decode (mB 0) 38 = .ok (.putfield 24, 3) := by decide +kernel
theorem f_0_41 : decode (mB 0) 41 = .ok (.aload_n 0, 1) := by decide +kernel
theorem f_0_42 : decode (mB 0) 42 = .ok (.new 28, 3) := by decide +kernel
theorem f_0_45 : decode (mB 0) 45 = .ok (.dup, 1) := by decide +kernel
theorem f_0_46 : decode (mB 0) 46 = .ok (.aload_n 0, 1) := by decide +kernel
theorem f_0_47 : decode (mB 0) 47 = .ok (.getfield 10, 3) := by decide +kernel
theorem f_0_50 : decode (mB 0) 50 = .ok (.aload_n 0, 1) := by decide +kernel
theorem f_0_51 : decode (mB 0) 51 = .ok (.getfield 24, 3) := by decide +kernel
theorem f_0_54 : decode (mB 0) 54 = .ok (.invokespecial 30, 3) := by decide +kernel
theorem f_0_57 : decode (mB 0) 57 = .ok (.putfield 33, 3) := by decide +kernel
theorem f_0_60 : decode (mB 0) 60 = .ok (.aload_n 0, 1) := by decide +kernel
theorem f_0_61 : decode (mB 0) 61 = .ok (.new 37, 3) := by decide +kernel
theorem f_0_64 : decode (mB 0) 64 = .ok (.dup, 1) := by decide +kernel
theorem f_0_65 : decode (mB 0) 65 = .ok (.invokespecial 39, 3) := by decide +kernel
theorem f_0_68 : decode (mB 0) 68 = .ok (.putfield 40, 3) := by decide +kernel
theorem f_0_71 : decode (mB 0) 71 = .ok (.aload_n 0, 1) := by decide +kernel
theorem f_0_72 : decode (mB 0) 72 = .ok (.new 44, 3) := by decide +kernel
theorem f_0_75 : decode (mB 0) 75 = .ok (.dup, 1) := by decide +kernel
theorem f_0_76 : decode (mB 0) 76 = .ok (.invokespecial 46, 3) := by decide +kernel
theorem f_0_79 : decode (mB 0) 79 = .ok (.putfield 47, 3) := by decide +kernel
theorem f_0_82 : decode (mB 0) 82 = .ok (.aload_n 0, 1) := by decide +kernel
theorem f_0_83 : decode (mB 0) 83 = .ok (.iconst 4, 1) := by decide +kernel
theorem f_0_84 : decode (mB 0) 84 = .ok (.anewarray 51, 3) := by decide +kernel
theorem f_0_87 : decode (mB 0) 87 = .ok (.putfield 53, 3) := by decide +kernel
theorem f_0_90 : decode (mB 0) 90 = .ok (.aload_n 0, 1) := by decide +kernel
theorem f_0_91 : decode (mB 0) 91 = .ok (.iconst 0, 1) := by decide +kernel
theorem f_0_92 : decode (mB 0) 92 = .ok (.putfield 57, 3) := by decide +kernel
theorem f_0_95 : decode (mB 0) 95 = .ok (.aload_n 0, 1) := by decide +kernel
theorem f_0_96 : decode (mB 0) 96 = .ok (.iconst 0, 1) := by decide +kernel
theorem f_0_97 : decode (mB 0) 97 = .ok (.putfield 61, 3) := by decide +kernel
theorem f_0_100 : decode (mB 0) 100 = .ok (.iconst 0, 1) := by decide +kernel
theorem f_0_101 : decode (mB 0) 101 = .ok (.istore_n 1, 1) := by decide +kernel
theorem f_0_102 : decode (mB 0) 102 = .ok (.iload_n 1, 1) := by decide +kernel
theorem f_0_103 : decode (mB 0) 103 = .ok (.iconst 4, 1) := by decide +kernel
theorem f_0_104 : decode (mB 0) 104 = .ok (.if_icmp .ge 22, 3) := by decide +kernel
theorem f_0_107 : decode (mB 0) 107 = .ok (.aload_n 0, 1) := by decide +kernel
theorem f_0_108 : decode (mB 0) 108 = .ok (.getfield 53, 3) := by decide +kernel
theorem f_0_111 : decode (mB 0) 111 = .ok (.iload_n 1, 1) := by decide +kernel
theorem f_0_112 : decode (mB 0) 112 = .ok (.new 51, 3) := by decide +kernel
theorem f_0_115 : decode (mB 0) 115 = .ok (.dup, 1) := by decide +kernel
theorem f_0_116 : decode (mB 0) 116 = .ok (.invokespecial 65, 3) := by decide +kernel
theorem f_0_119 : decode (mB 0) 119 = .ok (.aastore, 1) := by decide +kernel
theorem f_0_120 : decode (mB 0) 120 = .ok (.iinc 1 1, 3) := by decide +kernel
theorem f_0_123 : decode (mB 0) 123 = .ok (.goto (-21), 3) := by decide +kernel
theorem f_0_126 : decode (mB 0) 126 = .ok (.return_, 1) := by decide +kernel
theorem f_1_0 : decode (mB 1) 0 = .ok (.aload_n 0, 1) := by decide +kernel
theorem f_1_1 : decode (mB 1) 1 = .ok (.invokespecial 3, 3) := by decide +kernel
theorem f_1_4 : decode (mB 1) 4 = .ok (.aload_n 0, 1) := by decide +kernel
theorem f_1_5 : decode (mB 1) 5 = .ok (.bipush 14, 2) := by decide +kernel
theorem f_1_7 : decode (mB 1) 7 = .ok (.anewarray 9, 3) := by decide +kernel
theorem f_1_10 : decode (mB 1) 10 = .ok (.putfield 11, 3) := by decide +kernel
theorem f_1_13 : decode (mB 1) 13 = .ok (.aload_n 0, 1) := by decide +kernel
theorem f_1_14 : decode (mB 1) 14 = .ok (.bipush 8, 2) := by decide +kernel
theorem f_1_16 : decode (mB 1) 16 = .ok (.anewarray 17, 3) := by decide +kernel
theorem f_1_19 : decode (mB 1) 19 = .ok (.putfield 19, 3) := by decide +kernel
theorem f_1_22 : decode (mB 1) 22 = .ok (.aload_n 0, 1) := by decide +kernel
theorem f_1_23 : decode (mB 1) 23 = .ok (.bipush 20, 2) := by decide +kernel
theorem f_1_25 : decode (mB 1) 25 = .ok (.anewarray 23, 3) := by decide +kernel
theorem f_1_28 : decode (mB 1) 28 = .ok (.putfield 25, 3) := by decide +kernel
theorem f_1_31 : decode (mB 1) 31 = .ok (.aload_n 0, 1) := by decide +kernel
theorem f_1_32 : decode (mB 1) 32 = .ok (.bipush 12, 2) := by decide +kernel
theorem f_1_34 : decode (mB 1) 34 = .ok (.anewarray 29, 3) := by decide +kernel
theorem f_1_37 : decode (mB 1) 37 = .ok (.putfield 31, 3) := by decide +kernel
theorem f_1_40 : decode (mB 1) 40 = .ok (.aload_n 0, 1) := by decide +kernel
theorem f_1_41 : decode (mB 1) 41 = .ok (.iconst 5, 1) := by decide +kernel
theorem f_1_42 : decode (mB 1) 42 = .ok (.anewarray 35, 3) := by decide +kernel
theorem f_1_45 : decode (mB 1) 45 = .ok (.putfield 37, 3) := by decide +kernel
theorem f_1_48 : decode (mB 1) 48 = .ok (.aload_n 0, 1) := by decide +kernel
theorem f_1_49 : decode (mB 1) 49 = .ok (.iconst 2, 1) := by decide +kernel
theorem f_1_50 : decode (mB 1) 50 = .ok (.newarray .int, 2) := by decide +kernel
theorem f_1_52 : decode (mB 1) 52 = .ok (.putfield 41, 3) := by decide +kernel
theorem f_1_55 : decode (mB 1) 55 = .ok (.aload_n 0, 1) := by decide +kernel
theorem f_1_56 : decode (mB 1) 56 = .ok (.bipush 14, 2) := by decide +kernel
theorem f_1_58 : decode (mB 1) 58 = .ok (.newarray .int, 2) := by decide +kernel
theorem f_1_60 : decode (mB 1) 60 = .ok (.putfield 45, 3) := by decide +kernel
theorem f_1_63 : decode (mB 1) 63 = .ok (.aload_n 0, 1) := by decide +kernel
theorem f_1_64 : decode (mB 1) 64 = .ok (.iconst 0, 1) := by decide +kernel
theorem f_1_65 : decode (mB 1) 65 = .ok (.putfield 48, 3) := by decide +kernel
theorem f_1_68 : decode (mB 1) 68 = .ok (.aload_n 0, 1) := by decide +kernel
theorem f_1_69 : decode (mB 1) 69 = .ok (.iconst 0, 1) := by decide +kernel
theorem f_1_70 : decode (mB 1) 70 = .ok (.putfield 52, 3) := by decide +kernel
theorem f_1_73 : decode (mB 1) 73 = .ok (.aload_n 0, 1) := by decide +kernel
theorem f_1_74 : decode (mB 1) 74 = .ok (.iconst 0, 1) := by decide +kernel
theorem f_1_75 : decode (mB 1) 75 = .ok (.putfield 55, 3) := by decide +kernel
theorem f_1_78 : decode (mB 1) 78 = .ok (.aload_n 0, 1) := by decide +kernel
theorem f_1_79 : decode (mB 1) 79 = .ok (.iconst 0, 1) := by decide +kernel
theorem f_1_80 : decode (mB 1) 80 = .ok (.putfield 58, 3) := by decide +kernel
theorem f_1_83 : decode (mB 1) 83 = .ok (.aload_n 0, 1) := by decide +kernel
theorem f_1_84 : decode (mB 1) 84 = .ok (.iconst 0, 1) := by decide +kernel
theorem f_1_85 : decode (mB 1) 85 = .ok (.putfield 61, 3) := by decide +kernel
theorem f_1_88 : decode (mB 1) 88 = .ok (.aload_n 0, 1) := by decide +kernel
theorem f_1_89 : decode (mB 1) 89 = .ok (.iconst 0, 1) := by decide +kernel
theorem f_1_90 : decode (mB 1) 90 = .ok (.putfield 64, 3) := by decide +kernel
theorem f_1_93 : decode (mB 1) 93 = .ok (.aload_n 0, 1) := by decide +kernel
theorem f_1_94 : decode (mB 1) 94 = .ok (.iconst 0, 1) := by decide +kernel
theorem f_1_95 : decode (mB 1) 95 = .ok (.putfield 67, 3) := by decide +kernel
theorem f_1_98 : decode (mB 1) 98 = .ok (.iconst 0, 1) := by decide +kernel
theorem f_1_99 : decode (mB 1) 99 = .ok (.istore_n 1, 1) := by decide +kernel
theorem f_1_100 : decode (mB 1) 100 = .ok (.iload_n 1, 1) := by decide +kernel
theorem f_1_101 : decode (mB 1) 101 = .ok (.bipush 14, 2) := by decide +kernel
theorem f_1_103 : decode (mB 1) 103 = .ok (.if_icmp .ge 22, 3) := by decide +kernel
theorem f_1_106 : decode (mB 1) 106 = .ok (.aload_n 0, 1) := by decide +kernel
theorem f_1_107 : decode (mB 1) 107 = .ok (.getfield 11, 3) := by decide +kernel
theorem f_1_110 : decode (mB 1) 110 = .ok (.iload_n 1, 1) := by decide +kernel
theorem f_1_111 : decode (mB 1) 111 = .ok (.new 9, 3) := by decide +kernel
theorem f_1_114 : decode (mB 1) 114 = .ok (.dup, 1) := by decide +kernel
theorem f_1_115 : decode (mB 1) 115 = .ok (.invokespecial 70, 3) := by decide +kernel
theorem f_1_118 : decode (mB 1) 118 = .ok (.aastore, 1) := by decide +kernel
theorem f_1_119 : decode (mB 1) 119 = .ok (.iinc 1 1, 3) := by decide +kernel
theorem f_1_122 : decode (mB 1) 122 = .ok (.goto (-22), 3) := by decide +kernel
theorem f_1_125 : decode (mB 1) 125 = .ok (.iconst 0, 1) := by decide +kernel
theorem f_1_126 : decode (mB 1) 126 = .ok (.istore_n 1, 1) := by decide +kernel
theorem f_1_127 : decode (mB 1) 127 = .ok (.iload_n 1, 1) := by decide +kernel
theorem f_1_128 : decode (mB 1) 128 = .ok (.bipush 8, 2) := by decide +kernel
theorem f_1_130 : decode (mB 1) 130 = .ok (.if_icmp .ge 22, 3) := by decide +kernel
theorem f_1_133 : decode (mB 1) 133 = .ok (.aload_n 0, 1) := by decide +kernel
theorem f_1_134 : decode (mB 1) 134 = .ok (.getfield 19, 3) := by decide +kernel
theorem f_1_137 : decode (mB 1) 137 = .ok (.iload_n 1, 1) := by decide +kernel
theorem f_1_138 : decode (mB 1) 138 = .ok (.new 17, 3) := by decide +kernel
theorem f_1_141 : decode (mB 1) 141 = .ok (.dup, 1) := by decide +kernel
theorem f_1_142 : decode (mB 1) 142 = .ok (.invokespecial 71, 3) := by decide +kernel
theorem f_1_145 : decode (mB 1) 145 = .ok (.aastore, 1) := by decide +kernel
theorem f_1_146 : decode (mB 1) 146 = .ok (.iinc 1 1, 3) := by decide +kernel
theorem f_1_149 : decode (mB 1) 149 = .ok (.goto (-22), 3) := by decide +kernel
theorem f_1_152 : decode (mB 1) 152 = .ok (.iconst 0, 1) := by decide +kernel
theorem f_1_153 : decode (mB 1) 153 = .ok (.istore_n 1, 1) := by decide +kernel
theorem f_1_154 : decode (mB 1) 154 = .ok (.iload_n 1, 1) := by decide +kernel
theorem f_1_155 : decode (mB 1) 155 = .ok (.bipush 20, 2) := by decide +kernel
theorem f_1_157 : decode (mB 1) 157 = .ok (.if_icmp .ge 22, 3) := by decide +kernel
theorem f_1_160 : decode (mB 1) 160 = .ok (.aload_n 0, 1) := by decide +kernel
theorem f_1_161 : decode (mB 1) 161 = .ok (.getfield 25, 3) := by decide +kernel
theorem f_1_164 : decode (mB 1) 164 = .ok (.iload_n 1, 1) := by decide +kernel
theorem f_1_165 : decode (mB 1) 165 = .ok (.new 23, 3) := by decide +kernel
theorem f_1_168 : decode (mB 1) 168 = .ok (.dup, 1) := by decide +kernel
theorem f_1_169 : decode (mB 1) 169 = .ok (.invokespecial 72, 3) := by decide +kernel
theorem f_1_172 : decode (mB 1) 172 = .ok (.aastore, 1) := by decide +kernel
theorem f_1_173 : decode (mB 1) 173 = .ok (.iinc 1 1, 3) := by decide +kernel
theorem f_1_176 : decode (mB 1) 176 = .ok (.goto (-22), 3) := by decide +kernel
theorem f_1_179 : decode (mB 1) 179 = .ok (.iconst 0, 1) := by decide +kernel
theorem f_1_180 : decode (mB 1) 180 = .ok (.istore_n 1, 1) := by decide +kernel
theorem f_1_181 : decode (mB 1) 181 = .ok (.iload_n 1, 1) := by decide +kernel
theorem f_1_182 : decode (mB 1) 182 = .ok (.bipush 12, 2) := by decide +kernel
theorem f_1_184 : decode (mB 1) 184 = .ok (.if_icmp .ge 22, 3) := by decide +kernel
theorem f_1_187 : decode (mB 1) 187 = .ok (.aload_n 0, 1) := by decide +kernel
theorem f_1_188 : decode (mB 1) 188 = .ok (.getfield 31, 3) := by decide +kernel
theorem f_1_191 : decode (mB 1) 191 = .ok (.iload_n 1, 1) := by decide +kernel
theorem f_1_192 : decode (mB 1) 192 = .ok (.new 29, 3) := by decide +kernel
theorem f_1_195 : decode (mB 1) 195 = .ok (.dup, 1) := by decide +kernel
theorem f_1_196 : decode (mB 1) 196 = .ok (.invokespecial 73, 3) := by decide +kernel
theorem f_1_199 : decode (mB 1) 199 = .ok (.aastore, 1) := by decide +kernel
theorem f_1_200 : decode (mB 1) 200 = .ok (.iinc 1 1, 3) := by decide +kernel
theorem f_1_203 : decode (mB 1) 203 = .ok (.goto (-22), 3) := by decide +kernel
theorem f_1_206 : decode (mB 1) 206 = .ok (.return_, 1) := by decide +kernel
theorem f_2_0 : decode (mB 2) 0 = .ok (.aload_n 0, 1) := by decide +kernel
theorem f_2_1 : decode (mB 2) 1 = .ok (.invokespecial 1, 3) := by decide +kernel
theorem f_2_4 : decode (mB 2) 4 = .ok (.return_, 1) := by decide +kernel
theorem f_3_0 : decode (mB 3) 0 = .ok (.aload_n 0, 1) := by decide +kernel
theorem f_3_1 : decode (mB 3) 1 = .ok (.invokespecial 1, 3) := by decide +kernel
theorem f_3_4 : decode (mB 3) 4 = .ok (.return_, 1) := by decide +kernel
theorem f_4_0 : decode (mB 4) 0 = .ok (.aload_n 0, 1) := by decide +kernel
theorem f_4_1 : decode (mB 4) 1 = .ok (.invokespecial 3, 3) := by decide +kernel
theorem f_4_4 : decode (mB 4) 4 = .ok (.return_, 1) := by decide +kernel
theorem f_5_0 : decode (mB 5) 0 = .ok (.aload_n 0, 1) := by decide +kernel
theorem f_5_1 : decode (mB 5) 1 = .ok (.invokespecial 1, 3) := by decide +kernel
theorem f_5_4 : decode (mB 5) 4 = .ok (.aload_n 0, 1) := by decide +kernel
theorem f_5_5 : decode (mB 5) 5 = .ok (.aconst_null, 1) := by decide +kernel
theorem f_5_6 : decode (mB 5) 6 = .ok (.putfield 7, 3) := by decide +kernel
theorem f_5_9 : decode (mB 5) 9 = .ok (.return_, 1) := by decide +kernel
theorem f_6_0 : decode (mB 6) 0 = .ok (.aload_n 0, 1) := by decide +kernel
theorem f_6_1 : decode (mB 6) 1 = .ok (.invokespecial 3, 3) := by decide +kernel
theorem f_6_4 : decode (mB 6) 4 = .ok (.aload_n 0, 1) := by decide +kernel
theorem f_6_5 : decode (mB 6) 5 = .ok (.bipush 11, 2) := by decide +kernel
theorem f_6_7 : decode (mB 6) 7 = .ok (.newarray .int, 2) := by decide +kernel
theorem f_6_9 : decode (mB 6) 9 = .ok (.putfield 11, 3) := by decide +kernel
theorem f_6_12 : decode (mB 6) 12 = .ok (.aload_n 0, 1) := by decide +kernel
theorem f_6_13 : decode (mB 6) 13 = .ok (.sipush 200, 3) := by decide +kernel
theorem f_6_16 : decode (mB 6) 16 = .ok (.newarray .int, 2) := by decide +kernel
theorem f_6_18 : decode (mB 6) 18 = .ok (.putfield 17, 3) := by decide +kernel
theorem f_6_21 : decode (mB 6) 21 = .ok (.aload_n 0, 1) := by decide +kernel
theorem f_6_22 : decode (mB 6) 22 = .ok (.aload_n 1, 1) := by decide +kernel
theorem f_6_23 : decode (mB 6) 23 = .ok (.putfield 20, 3) := by decide +kernel
theorem f_6_26 : decode (mB 6) 26 = .ok (.return_, 1) := by decide +kernel
theorem f_7_0 : decode (mB 7) 0 = .ok (.aload_n 0, 1) := by decide +kernel
theorem f_7_1 : decode (mB 7) 1 = .ok (.invokespecial 3, 3) := by decide +kernel
theorem f_7_4 : decode (mB 7) 4 = .ok (.aload_n 0, 1) := by decide +kernel
theorem f_7_5 : decode (mB 7) 5 = .ok (.aload_n 1, 1) := by decide +kernel
theorem f_7_6 : decode (mB 7) 6 = .ok (.putfield 9, 3) := by decide +kernel
theorem f_7_9 : decode (mB 7) 9 = .ok (.aload_n 0, 1) := by decide +kernel
theorem f_7_10 : decode (mB 7) 10 = .ok (.aload_n 2, 1) := by decide +kernel
theorem f_7_11 : decode (mB 7) 11 = .ok (.putfield 15, 3) := by decide +kernel
theorem f_7_14 : decode (mB 7) 14 = .ok (.return_, 1) := by decide +kernel
theorem f_8_0 : decode (mB 8) 0 = .ok (.aload_n 0, 1) := by decide +kernel
theorem f_8_1 : decode (mB 8) 1 = .ok (.invokespecial 3, 3) := by decide +kernel
theorem f_8_4 : decode (mB 8) 4 = .ok (.aload_n 0, 1) := by decide +kernel
theorem f_8_5 : decode (mB 8) 5 = .ok (.sipush 200, 3) := by decide +kernel
theorem f_8_8 : decode (mB 8) 8 = .ok (.newarray .int, 2) := by decide +kernel
theorem f_8_10 : decode (mB 8) 10 = .ok (.putfield 11, 3) := by decide +kernel
theorem f_8_13 : decode (mB 8) 13 = .ok (.aload_n 0, 1) := by decide +kernel
theorem f_8_14 : decode (mB 8) 14 = .ok (.iconst 0, 1) := by decide +kernel
theorem f_8_15 : decode (mB 8) 15 = .ok (.putfield 15, 3) := by decide +kernel
theorem f_8_18 : decode (mB 8) 18 = .ok (.aload_n 0, 1) := by decide +kernel
theorem f_8_19 : decode (mB 8) 19 = .ok (.sipush 201, 3) := by decide +kernel
theorem f_8_22 : decode (mB 8) 22 = .ok (.newarray .int, 2) := by decide +kernel
theorem f_8_24 : decode (mB 8) 24 = .ok (.putfield 19, 3) := by decide +kernel
theorem f_8_27 : decode (mB 8) 27 = .ok (.aload_n 0, 1) := by decide +kernel
theorem f_8_28 : decode (mB 8) 28 = .ok (.sipush 201, 3) := by decide +kernel
theorem f_8_31 : decode (mB 8) 31 = .ok (.newarray .int, 2) := by decide +kernel
theorem f_8_33 : decode (mB 8) 33 = .ok (.putfield 22, 3) := by decide +kernel
theorem f_8_36 : decode (mB 8) 36 = .ok (.aload_n 0, 1) := by decide +kernel
theorem f_8_37 : decode (mB 8) 37 = .ok (.iconst 0, 1) := by decide +kernel
theorem f_8_38 : decode (mB 8) 38 = .ok (.putfield 25, 3) := by decide +kernel
theorem f_8_41 : decode (mB 8) 41 = .ok (.aload_n 0, 1) := by decide +kernel
theorem f_8_42 : decode (mB 8) 42 = .ok (.iconst 0, 1) := by decide +kernel
theorem f_8_43 : decode (mB 8) 43 = .ok (.putfield 28, 3) := by decide +kernel
theorem f_8_46 : decode (mB 8) 46 = .ok (.aload_n 0, 1) := by decide +kernel
theorem f_8_47 : decode (mB 8) 47 = .ok (.sipush 200, 3) := by decide +kernel
theorem f_8_50 : decode (mB 8) 50 = .ok (.newarray .int, 2) := by decide +kernel
theorem f_8_52 : decode (mB 8) 52 = .ok (.putfield 31, 3) := by decide +kernel
theorem f_8_55 : decode (mB 8) 55 = .ok (.aload_n 0, 1) := by decide +kernel
theorem f_8_56 : decode (mB 8) 56 = .ok (.iconst 0, 1) := by decide +kernel
theorem f_8_57 : decode (mB 8) 57 = .ok (.putfield 34, 3) := by decide +kernel
theorem f_8_60 : decode (mB 8) 60 = .ok (.aload_n 0, 1) := by decide +kernel
theorem f_8_61 : decode (mB 8) 61 = .ok (.iconst 3, 1) := by decide +kernel
theorem f_8_62 : decode (mB 8) 62 = .ok (.newarray .int, 2) := by decide +kernel
theorem f_8_64 : decode (mB 8) 64 = .ok (.putfield 37, 3) := by decide +kernel
theorem f_8_67 : decode (mB 8) 67 = .ok (.return_, 1) := by decide +kernel
theorem f_9_0 : decode (mB 9) 0 = .ok (.aload_n 0, 1) := by decide +kernel
theorem f_9_1 : decode (mB 9) 1 = .ok (.invokespecial 5, 3) := by decide +kernel
theorem f_9_4 : decode (mB 9) 4 = .ok (.aload_n 0, 1) := by decide +kernel
theorem f_9_5 : decode (mB 9) 5 = .ok (.iconst (-1), 1) := by decide +kernel
theorem f_9_6 : decode (mB 9) 6 = .ok (.putfield 11, 3) := by decide +kernel
theorem f_9_9 : decode (mB 9) 9 = .ok (.aload_n 0, 1) := by decide +kernel
theorem f_9_10 : decode (mB 9) 10 = .ok (.sipush 3721, 3) := by decide +kernel
theorem f_9_13 : decode (mB 9) 13 = .ok (.newarray .long, 2) := by decide +kernel
theorem f_9_15 : decode (mB 9) 15 = .ok (.putfield 15, 3) := by decide +kernel
theorem f_9_18 : decode (mB 9) 18 = .ok (.return_, 1) := by decide +kernel
theorem f_10_0 : decode (mB 10) 0 = .ok (.aload_n 0, 1) := by decide +kernel
theorem f_10_1 : decode (mB 10) 1 = .ok (.invokespecial 1, 3) := by decide +kernel
theorem f_10_4 : decode (mB 10) 4 = .ok (.aload_n 0, 1) := by decide +kernel
theorem f_10_5 : decode (mB 10) 5 = .ok (.bipush 20, 2) := by decide +kernel
theorem f_10_7 : decode (mB 10) 7 = .ok (.newarray .int, 2) := by decide +kernel
theorem f_10_9 : decode (mB 10) 9 = .ok (.putfield 9, 3) := by decide +kernel
theorem f_10_12 : decode (mB 10) 12 = .ok (.aload_n 0, 1) := by decide +kernel
theorem f_10_13 : decode (mB 10) 13 = .ok (.iconst 0, 1) := by decide +kernel
theorem f_10_14 : decode (mB 10) 14 = .ok (.putfield 13, 3) := by decide +kernel
theorem f_10_17 : decode (mB 10) 17 = .ok (.aload_n 0, 1) := by decide +kernel
theorem f_10_18 : decode (mB 10) 18 = .ok (.iconst 0, 1) := by decide +kernel
theorem f_10_19 : decode (mB 10) 19 = .ok (.putfield 17, 3) := by decide +kernel
theorem f_10_22 : decode (mB 10) 22 = .ok (.return_, 1) := by decide +kernel
theorem f_11_0 : decode (mB 11) 0 = .ok (.iload_n 1, 1) := by decide +kernel
theorem f_11_1 : decode (mB 11) 1 = .ok (.bipush (-99), 2) := by decide +kernel
theorem f_11_3 : decode (mB 11) 3 = .ok (.sipush 300, 3) := by decide +kernel
theorem f_11_6 : decode (mB 11) 6 = .ok (.aload_n 0, 1) := by decide +kernel
theorem f_11_7 : decode (mB 11) 7 = .ok (.getfield 10, 3) := by decide +kernel
theorem f_11_10 : decode (mB 11) 10 = .ok (.getfield 66, 3) := by decide +kernel
theorem f_11_13 : decode (mB 11) 13 = .ok (.invokestatic 69, 3) := by decide +kernel
theorem f_11_16 : decode (mB 11) 16 = .ok (.invokestatic 75, 3) := by decide +kernel
theorem f_11_19 : decode (mB 11) 19 = .ok (.ifCond .eq 27, 3) := by decide +kernel
theorem f_11_22 : decode (mB 11) 22 = .ok (.aload_n 0, 1) := by decide +kernel
theorem f_11_23 : decode (mB 11) 23 = .ok (.getfield 10, 3) := by decide +kernel
theorem f_11_26 : decode (mB 11) 26 = .ok (.iload_n 2, 1) := by decide +kernel
theorem f_11_27 : decode (mB 11) 27 = .ok (.iload_n 3, 1) := by decide +kernel
theorem f_11_28 : decode (mB 11) 28 = .ok (.invokevirtual 79, 3) := by decide +kernel
theorem f_11_31 : decode (mB 11) 31 = .ok (.ifCond .eq 15, 3) := by decide +kernel
theorem f_11_34 : decode (mB 11) 34 = .ok (.iload 4, 2) := by decide +kernel
theorem f_11_36 : decode (mB 11) 36 = .ok (.iconst 0, 1) := by decide +kernel
theorem f_11_37 : decode (mB 11) 37 = .ok (.sipush 9999, 3) := by decide +kernel
theorem f_11_40 : decode (mB 11) 40 = .ok (.invokestatic 75, 3) := by decide +kernel
theorem f_11_43 : decode (mB 11) 43 = .ok (.ifCond .ne 10, 3) := by decide +kernel
theorem f_11_46 : decode (mB 11) 46 = .ok (.aload_n 0, 1) := by decide +kernel
theorem f_11_47 : decode (mB 11) 47 = .ok (.ldc 83, 2) := by decide +kernel
theorem f_11_49 : decode (mB 11) 49 = .ok (.invokevirtual 84, 3) := by decide +kernel
theorem f_11_52 : decode (mB 11) 52 = .ok (.ireturn, 1) := by decide +kernel
theorem f_11_53 : decode (mB 11) 53 = .ok (.aload_n 0, 1) := by decide +kernel
theorem f_11_54 : decode (mB 11) 54 = .ok (.getfield 10, 3) := by decide +kernel
theorem f_11_57 : decode (mB 11) 57 = .ok (.getfield 88, 3) := by decide +kernel
theorem f_11_60 : decode (mB 11) 60 = .ok (.bipush 14, 2) := by decide +kernel
theorem f_11_62 : decode (mB 11) 62 = .ok (.if_icmp .lt 10, 3) := by decide +kernel
theorem f_11_65 : decode (mB 11) 65 = .ok (.aload_n 0, 1) := by decide +kernel
theorem f_11_66 : decode (mB 11) 66 = .ok (.ldc 91, 2) := by decide +kernel
theorem f_11_68 : decode (mB 11) 68 = .ok (.invokevirtual 84, 3) := by decide +kernel
theorem f_11_71 : decode (mB 11) 71 = .ok (.ireturn, 1) := by decide +kernel
theorem f_11_72 : decode (mB 11) 72 = .ok (.aload_n 0, 1) := by decide +kernel
theorem f_11_73 : decode (mB 11) 73 = .ok (.getfield 10, 3) := by decide +kernel
theorem f_11_76 : decode (mB 11) 76 = .ok (.getfield 92, 3) := by decide +kernel
theorem f_11_79 : decode (mB 11) 79 = .ok (.aload_n 0, 1) := by decide +kernel
theorem f_11_80 : decode (mB 11) 80 = .ok (.getfield 10, 3) := by decide +kernel
theorem f_11_83 : decode (mB 11) 83 = .ok (.getfield 88, 3) := by decide +kernel
theorem f_11_86 : decode (mB 11) 86 = .ok (.aaload, 1) := by decide +kernel
theorem f_11_87 : decode (mB 11) 87 = .ok (.iload_n 1, 1) := by decide +kernel
theorem f_11_88 : decode (mB 11) 88 = .ok (.iload_n 2, 1) := by decide +kernel
theorem f_11_89 : decode (mB 11) 89 = .ok (.iload_n 3, 1) := by decide +kernel
theorem f_11_90 : decode (mB 11) 90 = .ok (.iload 4, 2) := by decide +kernel
theorem f_11_92 : decode (mB 11) 92 = .ok (.invokevirtual 96, 3) := by decide +kernel
theorem f_11_95 : decode (mB 11) 95 = .ok (.aload_n 0, 1) := by decide +kernel
theorem f_11_96 : decode (mB 11) 96 = .ok (.getfield 10, 3) := by decide +kernel
theorem f_11_99 : decode (mB 11) 99 = .ok (.dup, 1) := by decide +kernel
theorem f_11_100 : decode (mB 11) 100 = .ok (.getfield 88, 3) := by decide +kernel
theorem f_11_103 : decode (mB 11) 103 = .ok (.dup_x1, 1) := by decide +kernel
theorem f_11_104 : decode (mB 11) 104 = .ok (.iconst 1, 1) := by decide +kernel
theorem f_11_105 : decode (mB 11) 105 = .ok (.iadd, 1) := by decide +kernel
theorem f_11_106 : decode (mB 11) 106 = .ok (.putfield 88, 3) := by decide +kernel
theorem f_11_109 : decode (mB 11) 109 = .ok (.ireturn, 1) := by decide +kernel
theorem f_12_0 : decode (mB 12) 0 = .ok (.iload_n 0, 1) := by decide +kernel
theorem f_12_1 : decode (mB 12) 1 = .ok (.iload_n 1, 1) := by decide +kernel
theorem f_12_2 : decode (mB 12) 2 = .ok (.if_icmp .lt 12, 3) := by decide +kernel
theorem f_12_5 : decode (mB 12) 5 = .ok (.iload_n 0, 1) := by decide +kernel
theorem f_12_6 : decode (mB 12) 6 = .ok (.iload_n 2, 1) := by decide +kernel
theorem f_12_7 : decode (mB 12) 7 = .ok (.if_icmp .gt 7, 3) := by decide +kernel
theorem f_12_10 : decode (mB 12) 10 = .ok (.iconst 1, 1) := by decide +kernel
theorem f_12_11 : decode (mB 12) 11 = .ok (.goto 4, 3) := by decide +kernel
theorem f_12_14 : decode (mB 12) 14 = .ok (.iconst 0, 1) := by decide +kernel
theorem f_12_15 : decode (mB 12) 15 = .ok (.ireturn, 1) := by decide +kernel
theorem f_13_0 : decode (mB 13) 0 = .ok (.iload_n 1, 1) := by decide +kernel
theorem f_13_1 : decode (mB 13) 1 = .ok (.iconst (-1), 1) := by decide +kernel
theorem f_13_2 : decode (mB 13) 2 = .ok (.if_icmp .eq 11, 3) := by decide +kernel
theorem f_13_5 : decode (mB 13) 5 = .ok (.aload_n 0, 1) := by decide +kernel
theorem f_13_6 : decode (mB 13) 6 = .ok (.iload_n 1, 1) := by decide +kernel
theorem f_13_7 : decode (mB 13) 7 = .ok (.invokevirtual 108, 3) := by decide +kernel
theorem f_13_10 : decode (mB 13) 10 = .ok (.ifCond .eq 30, 3) := by decide +kernel
theorem f_13_13 : decode (mB 13) 13 = .ok (.iload_n 2, 1) := by decide +kernel
theorem f_13_14 : decode (mB 13) 14 = .ok (.iconst (-1), 1) := by decide +kernel
theorem f_13_15 : decode (mB 13) 15 = .ok (.if_icmp .eq 11, 3) := by decide +kernel
theorem f_13_18 : decode (mB 13) 18 = .ok (.aload_n 0, 1) := by decide +kernel
theorem f_13_19 : decode (mB 13) 19 = .ok (.iload_n 2, 1) := by decide +kernel
theorem f_13_20 : decode (mB 13) 20 = .ok (.invokevirtual 108, 3) := by decide +kernel
theorem f_13_23 : decode (mB 13) 23 = .ok (.ifCond .eq 17, 3) := by decide +kernel
theorem f_13_26 : decode (mB 13) 26 = .ok (.iload_n 1, 1) := by decide +kernel
theorem f_13_27 : decode (mB 13) 27 = .ok (.iload_n 2, 1) := by decide +kernel
theorem f_13_28 : decode (mB 13) 28 = .ok (.if_icmp .ne 8, 3) := by decide +kernel
theorem f_13_31 : decode (mB 13) 31 = .ok (.iload_n 1, 1) := by decide +kernel
theorem f_13_32 : decode (mB 13) 32 = .ok (.iconst (-1), 1) := by decide +kernel
theorem f_13_33 : decode (mB 13) 33 = .ok (.if_icmp .ne 7, 3) := by decide +kernel
theorem f_13_36 : decode (mB 13) 36 = .ok (.iconst 1, 1) := by decide +kernel
theorem f_13_37 : decode (mB 13) 37 = .ok (.goto 4, 3) := by decide +kernel
theorem f_13_40 : decode (mB 13) 40 = .ok (.iconst 0, 1) := by decide +kernel
theorem f_13_41 : decode (mB 13) 41 = .ok (.ireturn, 1) := by decide +kernel
theorem f_14_0 : decode (mB 14) 0 = .ok (.iload_n 1, 1) := by decide +kernel
theorem f_14_1 : decode (mB 14) 1 = .ok (.iconst 0, 1) := by decide +kernel
theorem f_14_2 : decode (mB 14) 2 = .ok (.aload_n 0, 1) := by decide +kernel
theorem f_14_3 : decode (mB 14) 3 = .ok (.getfield 48, 3) := by decide +kernel
theorem f_14_6 : decode (mB 14) 6 = .ok (.iconst 1, 1) := by decide +kernel
theorem f_14_7 : decode (mB 14) 7 = .ok (.isub, 1) := by decide +kernel
theorem f_14_8 : decode (mB 14) 8 = .ok (.invokestatic 104, 3) := by decide +kernel
theorem f_14_11 : decode (mB 14) 11 = .ok (.ireturn, 1) := by decide +kernel
theorem f_15_0 : decode (mB 15) 0 = .ok (.aload_n 0, 1) := by decide +kernel
theorem f_15_1 : decode (mB 15) 1 = .ok (.dup, 1) := by decide +kernel
theorem f_15_2 : decode (mB 15) 2 = .ok (.getfield 61, 3) := by decide +kernel
theorem f_15_5 : decode (mB 15) 5 = .ok (.iconst 1, 1) := by decide +kernel
theorem f_15_6 : decode (mB 15) 6 = .ok (.iadd, 1) := by decide +kernel
theorem f_15_7 : decode (mB 15) 7 = .ok (.putfield 61, 3) := by decide +kernel
theorem f_15_10 : decode (mB 15) 10 = .ok (.iload_n 1, 1) := by decide +kernel
theorem f_15_11 : decode (mB 15) 11 = .ok (.ireturn, 1) := by decide +kernel
theorem f_16_0 : decode (mB 16) 0 = .ok (.aload_n 0, 1) := by decide +kernel
theorem f_16_1 : decode (mB 16) 1 = .ok (.iload_n 1, 1) := by decide +kernel
theorem f_16_2 : decode (mB 16) 2 = .ok (.putfield 7, 3) := by decide +kernel
theorem f_16_5 : decode (mB 16) 5 = .ok (.aload_n 0, 1) := by decide +kernel
theorem f_16_6 : decode (mB 16) 6 = .ok (.iload_n 2, 1) := by decide +kernel
theorem f_16_7 : decode (mB 16) 7 = .ok (.putfield 13, 3) := by decide +kernel
theorem f_16_10 : decode (mB 16) 10 = .ok (.aload_n 0, 1) := by decide +kernel
theorem f_16_11 : decode (mB 16) 11 = .ok (.iload_n 3, 1) := by decide +kernel
theorem f_16_12 : decode (mB 16) 12 = .ok (.putfield 16, 3) := by decide +kernel
theorem f_16_15 : decode (mB 16) 15 = .ok (.aload_n 0, 1) := by decide +kernel
theorem f_16_16 : decode (mB 16) 16 = .ok (.iload 4, 2) := by decide +kernel
theorem f_16_18 : decode (mB 16) 18 = .ok (.putfield 19, 3) := by decide +kernel
theorem f_16_21 : decode (mB 16) 21 = .ok (.aload_n 0, 1) := by decide +kernel
theorem f_16_22 : decode (mB 16) 22 = .ok (.iconst (-1), 1) := by decide +kernel
theorem f_16_23 : decode (mB 16) 23 = .ok (.putfield 22, 3) := by decide +kernel
theorem f_16_26 : decode (mB 16) 26 = .ok (.aload_n 0, 1) := by decide +kernel
theorem f_16_27 : decode (mB 16) 27 = .ok (.iconst 3, 1) := by decide +kernel
theorem f_16_28 : decode (mB 16) 28 = .ok (.putfield 25, 3) := by decide +kernel
theorem f_16_31 : decode (mB 16) 31 = .ok (.aload_n 0, 1) := by decide +kernel
theorem f_16_32 : decode (mB 16) 32 = .ok (.iconst (-1), 1) := by decide +kernel
theorem f_16_33 : decode (mB 16) 33 = .ok (.putfield 28, 3) := by decide +kernel
theorem f_16_36 : decode (mB 16) 36 = .ok (.aload_n 0, 1) := by decide +kernel
theorem f_16_37 : decode (mB 16) 37 = .ok (.iconst 0, 1) := by decide +kernel
theorem f_16_38 : decode (mB 16) 38 = .ok (.putfield 31, 3) := by decide +kernel
theorem f_16_41 : decode (mB 16) 41 = .ok (.aload_n 0, 1) := by decide +kernel
theorem f_16_42 : decode (mB 16) 42 = .ok (.iconst 0, 1) := by decide +kernel
theorem f_16_43 : decode (mB 16) 43 = .ok (.putfield 34, 3) := by decide +kernel
theorem f_16_46 : decode (mB 16) 46 = .ok (.aload_n 0, 1) := by decide +kernel
theorem f_16_47 : decode (mB 16) 47 = .ok (.iconst 0, 1) := by decide +kernel
theorem f_16_48 : decode (mB 16) 48 = .ok (.putfield 38, 3) := by decide +kernel
theorem f_16_51 : decode (mB 16) 51 = .ok (.return_, 1) := by decide +kernel
theorem f_17_0 : decode (mB 17) 0 = .ok (.aload_n 0, 1) := by decide +kernel
theorem f_17_1 : decode (mB 17) 1 = .ok (.getfield 10, 3) := by decide +kernel
theorem f_17_4 : decode (mB 17) 4 = .ok (.iload_n 1, 1) := by decide +kernel
theorem f_17_5 : decode (mB 17) 5 = .ok (.invokevirtual 102, 3) := by decide +kernel
theorem f_17_8 : decode (mB 17) 8 = .ok (.ifCond .ne 10, 3) := by decide +kernel
theorem f_17_11 : decode (mB 17) 11 = .ok (.aload_n 0, 1) := by decide +kernel
theorem f_17_12 : decode (mB 17) 12 = .ok (.ldc 83, 2) := by decide +kernel
theorem f_17_14 : decode (mB 17) 14 = .ok (.invokevirtual 84, 3) := by decide +kernel
theorem f_17_17 : decode (mB 17) 17 = .ok (.ireturn, 1) := by decide +kernel
theorem f_17_18 : decode (mB 17) 18 = .ok (.aload_n 0, 1) := by decide +kernel
theorem f_17_19 : decode (mB 17) 19 = .ok (.getfield 10, 3) := by decide +kernel
theorem f_17_22 : decode (mB 17) 22 = .ok (.getfield 92, 3) := by decide +kernel
theorem f_17_25 : decode (mB 17) 25 = .ok (.iload_n 1, 1) := by decide +kernel
theorem f_17_26 : decode (mB 17) 26 = .ok (.aaload, 1) := by decide +kernel
theorem f_17_27 : decode (mB 17) 27 = .ok (.iload_n 2, 1) := by decide +kernel
theorem f_17_28 : decode (mB 17) 28 = .ok (.putfield 106, 3) := by decide +kernel
theorem f_17_31 : decode (mB 17) 31 = .ok (.aload_n 0, 1) := by decide +kernel
theorem f_17_32 : decode (mB 17) 32 = .ok (.getfield 10, 3) := by decide +kernel
theorem f_17_35 : decode (mB 17) 35 = .ok (.getfield 92, 3) := by decide +kernel
theorem f_17_38 : decode (mB 17) 38 = .ok (.iload_n 1, 1) := by decide +kernel
theorem f_17_39 : decode (mB 17) 39 = .ok (.aaload, 1) := by decide +kernel
theorem f_17_40 : decode (mB 17) 40 = .ok (.iload_n 3, 1) := by decide +kernel
theorem f_17_41 : decode (mB 17) 41 = .ok (.putfield 109, 3) := by decide +kernel
theorem f_17_44 : decode (mB 17) 44 = .ok (.iconst 1, 1) := by decide +kernel
theorem f_17_45 : decode (mB 17) 45 = .ok (.ireturn, 1) := by decide +kernel
theorem f_18_0 : decode (mB 18) 0 = .ok (.aload_n 0, 1) := by decide +kernel
theorem f_18_1 : decode (mB 18) 1 = .ok (.getfield 10, 3) := by decide +kernel
theorem f_18_4 : decode (mB 18) 4 = .ok (.iload_n 1, 1) := by decide +kernel
theorem f_18_5 : decode (mB 18) 5 = .ok (.invokevirtual 102, 3) := by decide +kernel
theorem f_18_8 : decode (mB 18) 8 = .ok (.ifCond .eq 13, 3) := by decide +kernel
theorem f_18_11 : decode (mB 18) 11 = .ok (.iload_n 2, 1) := by decide +kernel
theorem f_18_12 : decode (mB 18) 12 = .ok (.iconst 0, 1) := by decide +kernel
theorem f_18_13 : decode (mB 18) 13 = .ok (.bipush 50, 2) := by decide +kernel
theorem f_18_15 : decode (mB 18) 15 = .ok (.invokestatic 75, 3) := by decide +kernel
theorem f_18_18 : decode (mB 18) 18 = .ok (.ifCond .ne 10, 3) := by decide +kernel
theorem f_18_21 : decode (mB 18) 21 = .ok (.aload_n 0, 1) := by decide +kernel
theorem f_18_22 : decode (mB 18) 22 = .ok (.ldc 83, 2) := by decide +kernel
theorem f_18_24 : decode (mB 18) 24 = .ok (.invokevirtual 84, 3) := by decide +kernel
theorem f_18_27 : decode (mB 18) 27 = .ok (.ireturn, 1) := by decide +kernel
theorem f_18_28 : decode (mB 18) 28 = .ok (.aload_n 0, 1) := by decide +kernel
theorem f_18_29 : decode (mB 18) 29 = .ok (.getfield 10, 3) := by decide +kernel
theorem f_18_32 : decode (mB 18) 32 = .ok (.getfield 92, 3) := by decide +kernel
theorem f_18_35 : decode (mB 18) 35 = .ok (.iload_n 1, 1) := by decide +kernel
theorem f_18_36 : decode (mB 18) 36 = .ok (.aaload, 1) := by decide +kernel
theorem f_18_37 : decode (mB 18) 37 = .ok (.getfield 112, 3) := by decide +kernel
theorem f_18_40 : decode (mB 18) 40 = .ok (.istore_n 3, 1) := by decide +kernel
theorem f_18_41 : decode (mB 18) 41 = .ok (.aload_n 0, 1) := by decide +kernel
theorem f_18_42 : decode (mB 18) 42 = .ok (.getfield 10, 3) := by decide +kernel
theorem f_18_45 : decode (mB 18) 45 = .ok (.getfield 92, 3) := by decide +kernel
theorem f_18_48 : decode (mB 18) 48 = .ok (.iload_n 1, 1) := by decide +kernel
theorem f_18_49 : decode (mB 18) 49 = .ok (.aaload, 1) := by decide +kernel
theorem f_18_50 : decode (mB 18) 50 = .ok (.iload_n 2, 1) := by decide +kernel
theorem f_18_51 : decode (mB 18) 51 = .ok (.putfield 112, 3) := by decide +kernel
theorem f_18_54 : decode (mB 18) 54 = .ok (.iload_n 3, 1) := by decide +kernel
theorem f_18_55 : decode (mB 18) 55 = .ok (.ireturn, 1) := by decide +kernel
theorem f_19_0 : decode (mB 19) 0 = .ok (.aload_n 0, 1) := by decide +kernel
theorem f_19_1 : decode (mB 19) 1 = .ok (.getfield 10, 3) := by decide +kernel
theorem f_19_4 : decode (mB 19) 4 = .ok (.iload_n 1, 1) := by decide +kernel
theorem f_19_5 : decode (mB 19) 5 = .ok (.invokevirtual 102, 3) := by decide +kernel
theorem f_19_8 : decode (mB 19) 8 = .ok (.ifCond .ne 10, 3) := by decide +kernel
theorem f_19_11 : decode (mB 19) 11 = .ok (.aload_n 0, 1) := by decide +kernel
theorem f_19_12 : decode (mB 19) 12 = .ok (.ldc 83, 2) := by decide +kernel
theorem f_19_14 : decode (mB 19) 14 = .ok (.invokevirtual 84, 3) := by decide +kernel
theorem f_19_17 : decode (mB 19) 17 = .ok (.ireturn, 1) := by decide +kernel
theorem f_19_18 : decode (mB 19) 18 = .ok (.aload_n 0, 1) := by decide +kernel
theorem f_19_19 : decode (mB 19) 19 = .ok (.getfield 10, 3) := by decide +kernel
theorem f_19_22 : decode (mB 19) 22 = .ok (.getfield 92, 3) := by decide +kernel
theorem f_19_25 : decode (mB 19) 25 = .ok (.iload_n 1, 1) := by decide +kernel
theorem f_19_26 : decode (mB 19) 26 = .ok (.aaload, 1) := by decide +kernel
theorem f_19_27 : decode (mB 19) 27 = .ok (.astore_n 2, 1) := by decide +kernel
theorem f_19_28 : decode (mB 19) 28 = .ok (.aload_n 2, 1) := by decide +kernel
theorem f_19_29 : decode (mB 19) 29 = .ok (.invokevirtual 115, 3) := by decide +kernel
theorem f_19_32 : decode (mB 19) 32 = .ok (.ifCond .eq 10, 3) := by decide +kernel
theorem f_19_35 : decode (mB 19) 35 = .ok (.aload_n 0, 1) := by decide +kernel
theorem f_19_36 : decode (mB 19) 36 = .ok (.ldc 119, 2) := by decide +kernel
theorem f_19_38 : decode (mB 19) 38 = .ok (.invokevirtual 84, 3) := by decide +kernel
theorem f_19_41 : decode (mB 19) 41 = .ok (.ireturn, 1) := by decide +kernel
theorem f_19_42 : decode (mB 19) 42 = .ok (.aload_n 2, 1) := by decide +kernel
theorem f_19_43 : decode (mB 19) 43 = .ok (.getfield 120, 3) := by decide +kernel
theorem f_19_46 : decode (mB 19) 46 = .ok (.istore_n 3, 1) := by decide +kernel
theorem f_19_47 : decode (mB 19) 47 = .ok (.aload_n 0, 1) := by decide +kernel
theorem f_19_48 : decode (mB 19) 48 = .ok (.getfield 10, 3) := by decide +kernel
theorem f_19_51 : decode (mB 19) 51 = .ok (.dup, 1) := by decide +kernel
theorem f_19_52 : decode (mB 19) 52 = .ok (.getfield 123, 3) := by decide +kernel
theorem f_19_55 : decode (mB 19) 55 = .ok (.iload_n 3, 1) := by decide +kernel
theorem f_19_56 : decode (mB 19) 56 = .ok (.iadd, 1) := by decide +kernel
theorem f_19_57 : decode (mB 19) 57 = .ok (.putfield 123, 3) := by decide +kernel
theorem f_19_60 : decode (mB 19) 60 = .ok (.aload_n 2, 1) := by decide +kernel
theorem f_19_61 : decode (mB 19) 61 = .ok (.iconst 0, 1) := by decide +kernel
theorem f_19_62 : decode (mB 19) 62 = .ok (.putfield 120, 3) := by decide +kernel
theorem f_19_65 : decode (mB 19) 65 = .ok (.aload_n 2, 1) := by decide +kernel
theorem f_19_66 : decode (mB 19) 66 = .ok (.aload_n 0, 1) := by decide +kernel
theorem f_19_67 : decode (mB 19) 67 = .ok (.getfield 10, 3) := by decide +kernel
theorem f_19_70 : decode (mB 19) 70 = .ok (.getfield 66, 3) := by decide +kernel
theorem f_19_73 : decode (mB 19) 73 = .ok (.putfield 126, 3) := by decide +kernel
theorem f_19_76 : decode (mB 19) 76 = .ok (.iload_n 3, 1) := by decide +kernel
theorem f_19_77 : decode (mB 19) 77 = .ok (.ireturn, 1) := by decide +kernel
theorem f_20_0 : decode (mB 20) 0 = .ok (.aload_n 0, 1) := by decide +kernel
theorem f_20_1 : decode (mB 20) 1 = .ok (.getfield 22, 3) := by decide +kernel
theorem f_20_4 : decode (mB 20) 4 = .ok (.ifCond .lt 7, 3) := by decide +kernel
theorem f_20_7 : decode (mB 20) 7 = .ok (.iconst 1, 1) := by decide +kernel
theorem f_20_8 : decode (mB 20) 8 = .ok (.goto 4, 3) := by decide +kernel
theorem f_20_11 : decode (mB 20) 11 = .ok (.iconst 0, 1) := by decide +kernel
theorem f_20_12 : decode (mB 20) 12 = .ok (.ireturn, 1) := by decide +kernel
theorem f_21_0 : decode (mB 21) 0 = .ok (.aload_n 0, 1) := by decide +kernel
theorem f_21_1 : decode (mB 21) 1 = .ok (.getfield 10, 3) := by decide +kernel
theorem f_21_4 : decode (mB 21) 4 = .ok (.iload_n 1, 1) := by decide +kernel
theorem f_21_5 : decode (mB 21) 5 = .ok (.invokevirtual 102, 3) := by decide +kernel
theorem f_21_8 : decode (mB 21) 8 = .ok (.ifCond .ne 10, 3) := by decide +kernel
theorem f_21_11 : decode (mB 21) 11 = .ok (.aload_n 0, 1) := by decide +kernel
theorem f_21_12 : decode (mB 21) 12 = .ok (.ldc 83, 2) := by decide +kernel
theorem f_21_14 : decode (mB 21) 14 = .ok (.invokevirtual 84, 3) := by decide +kernel
theorem f_21_17 : decode (mB 21) 17 = .ok (.ireturn, 1) := by decide +kernel
theorem f_21_18 : decode (mB 21) 18 = .ok (.aload_n 0, 1) := by decide +kernel
theorem f_21_19 : decode (mB 21) 19 = .ok (.getfield 10, 3) := by decide +kernel
theorem f_21_22 : decode (mB 21) 22 = .ok (.getfield 92, 3) := by decide +kernel
theorem f_21_25 : decode (mB 21) 25 = .ok (.iload_n 1, 1) := by decide +kernel
theorem f_21_26 : decode (mB 21) 26 = .ok (.aaload, 1) := by decide +kernel
theorem f_21_27 : decode (mB 21) 27 = .ok (.astore_n 3, 1) := by decide +kernel
theorem f_21_28 : decode (mB 21) 28 = .ok (.iload_n 2, 1) := by decide +kernel
theorem f_21_29 : decode (mB 21) 29 = .ok (.tableswitch 99 0 7 #[47, 52, 57, 62, 67, 76, 85, 90], 47) := by decide +kernel
theorem f_21_76 : decode (mB 21) 76 = .ok (.aload_n 3, 1) := by decide +kernel
theorem f_21_77 : decode (mB 21) 77 = .ok (.getfield 129, 3) := by decide +kernel
theorem f_21_80 : decode (mB 21) 80 = .ok (.ireturn, 1) := by decide +kernel
theorem f_21_81 : decode (mB 21) 81 = .ok (.aload_n 3, 1) := by decide +kernel
theorem f_21_82 : decode (mB 21) 82 = .ok (.getfield 126, 3) := by decide +kernel
theorem f_21_85 : decode (mB 21) 85 = .ok (.ireturn, 1) := by decide +kernel
theorem f_21_86 : decode (mB 21) 86 = .ok (.aload_n 3, 1) := by decide +kernel
theorem f_21_87 : decode (mB 21) 87 = .ok (.getfield 120, 3) := by decide +kernel
theorem f_21_90 : decode (mB 21) 90 = .ok (.ireturn, 1) := by decide +kernel
theorem f_21_91 : decode (mB 21) 91 = .ok (.aload_n 3, 1) := by decide +kernel
theorem f_21_92 : decode (mB 21) 92 = .ok (.getfield 132, 3) := by decide +kernel
theorem f_21_95 : decode (mB 21) 95 = .ok (.ireturn, 1) := by decide +kernel
theorem f_21_96 : decode (mB 21) 96 = .ok (.aload_n 0, 1) := by decide +kernel
theorem f_21_97 : decode (mB 21) 97 = .ok (.getfield 10, 3) := by decide +kernel
theorem f_21_100 : decode (mB 21) 100 = .ok (.iload_n 1, 1) := by decide +kernel
theorem f_21_101 : decode (mB 21) 101 = .ok (.invokevirtual 135, 3) := by decide +kernel
theorem f_21_104 : decode (mB 21) 104 = .ok (.ireturn, 1) := by decide +kernel
theorem f_21_105 : decode (mB 21) 105 = .ok (.aload_n 0, 1) := by decide +kernel
theorem f_21_106 : decode (mB 21) 106 = .ok (.getfield 10, 3) := by decide +kernel
theorem f_21_109 : decode (mB 21) 109 = .ok (.iload_n 1, 1) := by decide +kernel
theorem f_21_110 : decode (mB 21) 110 = .ok (.invokevirtual 138, 3) := by decide +kernel
theorem f_21_113 : decode (mB 21) 113 = .ok (.ireturn, 1) := by decide +kernel
theorem f_21_114 : decode (mB 21) 114 = .ok (.aload_n 3, 1) := by decide +kernel
theorem f_21_115 : decode (mB 21) 115 = .ok (.getfield 141, 3) := by decide +kernel
theorem f_21_118 : decode (mB 21) 118 = .ok (.ireturn, 1) := by decide +kernel
theorem f_21_119 : decode (mB 21) 119 = .ok (.aload_n 0, 1) := by decide +kernel
theorem f_21_120 : decode (mB 21) 120 = .ok (.getfield 10, 3) := by decide +kernel
theorem f_21_123 : decode (mB 21) 123 = .ok (.iload_n 1, 1) := by decide +kernel
theorem f_21_124 : decode (mB 21) 124 = .ok (.invokevirtual 144, 3) := by decide +kernel
theorem f_21_127 : decode (mB 21) 127 = .ok (.ireturn, 1) := by decide +kernel
theorem f_21_128 : decode (mB 21) 128 = .ok (.aload_n 0, 1) := by decide +kernel
theorem f_21_129 : decode (mB 21) 129 = .ok (.ldc 83, 2) := by decide +kernel
theorem f_21_131 : decode (mB 21) 131 = .ok (.invokevirtual 84, 3) := by decide +kernel
theorem f_21_134 : decode (mB 21) 134 = .ok (.ireturn, 1) := by decide +kernel
theorem f_22_0 : decode (mB 22) 0 = .ok (.iconst 0, 1) := by decide +kernel
theorem f_22_1 : decode (mB 22) 1 = .ok (.istore_n 2, 1) := by decide +kernel
theorem f_22_2 : decode (mB 22) 2 = .ok (.iconst 0, 1) := by decide +kernel
theorem f_22_3 : decode (mB 22) 3 = .ok (.istore_n 3, 1) := by decide +kernel
theorem f_22_4 : decode (mB 22) 4 = .ok (.iload_n 3, 1) := by decide +kernel
theorem f_22_5 : decode (mB 22) 5 = .ok (.aload_n 0, 1) := by decide +kernel
theorem f_22_6 : decode (mB 22) 6 = .ok (.getfield 55, 3) := by decide +kernel
theorem f_22_9 : decode (mB 22) 9 = .ok (.if_icmp .ge 38, 3) := by decide +kernel
theorem f_22_12 : decode (mB 22) 12 = .ok (.iload_n 2, 1) := by decide +kernel
theorem f_22_13 : decode (mB 22) 13 = .ok (.aload_n 0, 1) := by decide +kernel
theorem f_22_14 : decode (mB 22) 14 = .ok (.getfield 25, 3) := by decide +kernel
theorem f_22_17 : decode (mB 22) 17 = .ok (.iload_n 3, 1) := by decide +kernel
theorem f_22_18 : decode (mB 22) 18 = .ok (.aaload, 1) := by decide +kernel
theorem f_22_19 : decode (mB 22) 19 = .ok (.getfield 161, 3) := by decide +kernel
theorem f_22_22 : decode (mB 22) 22 = .ok (.iload_n 1, 1) := by decide +kernel
theorem f_22_23 : decode (mB 22) 23 = .ok (.if_icmp .ne 15, 3) := by decide +kernel
theorem f_22_26 : decode (mB 22) 26 = .ok (.aload_n 0, 1) := by decide +kernel
theorem f_22_27 : decode (mB 22) 27 = .ok (.getfield 25, 3) := by decide +kernel
theorem f_22_30 : decode (mB 22) 30 = .ok (.iload_n 3, 1) := by decide +kernel
theorem f_22_31 : decode (mB 22) 31 = .ok (.aaload, 1) := by decide +kernel
theorem f_22_32 : decode (mB 22) 32 = .ok (.invokevirtual 188, 3) := by decide +kernel
theorem f_22_35 : decode (mB 22) 35 = .ok (.goto 4, 3) := by decide +kernel
theorem f_22_38 : decode (mB 22) 38 = .ok (.iconst 0, 1) := by decide +kernel
theorem f_22_39 : decode (mB 22) 39 = .ok (.iadd, 1) := by decide +kernel
theorem f_22_40 : decode (mB 22) 40 = .ok (.istore_n 2, 1) := by decide +kernel
theorem f_22_41 : decode (mB 22) 41 = .ok (.iinc 3 1, 3) := by decide +kernel
theorem f_22_44 : decode (mB 22) 44 = .ok (.goto (-40), 3) := by decide +kernel
theorem f_22_47 : decode (mB 22) 47 = .ok (.iload_n 2, 1) := by decide +kernel
theorem f_22_48 : decode (mB 22) 48 = .ok (.ireturn, 1) := by decide +kernel
theorem f_23_0 : decode (mB 23) 0 = .ok (.aload_n 0, 1) := by decide +kernel
theorem f_23_1 : decode (mB 23) 1 = .ok (.getfield 39, 3) := by decide +kernel
theorem f_23_4 : decode (mB 23) 4 = .ok (.ifCond .ne 10, 3) := by decide +kernel
theorem f_23_7 : decode (mB 23) 7 = .ok (.aload_n 0, 1) := by decide +kernel
theorem f_23_8 : decode (mB 23) 8 = .ok (.invokevirtual 46, 3) := by decide +kernel
theorem f_23_11 : decode (mB 23) 11 = .ok (.goto 4, 3) := by decide +kernel
theorem f_23_14 : decode (mB 23) 14 = .ok (.iconst 0, 1) := by decide +kernel
theorem f_23_15 : decode (mB 23) 15 = .ok (.ireturn, 1) := by decide +kernel
theorem f_24_0 : decode (mB 24) 0 = .ok (.aload_n 0, 1) := by decide +kernel
theorem f_24_1 : decode (mB 24) 1 = .ok (.getfield 21, 3) := by decide +kernel
theorem f_24_4 : decode (mB 24) 4 = .ok (.aload_n 0, 1) := by decide +kernel
theorem f_24_5 : decode (mB 24) 5 = .ok (.getfield 24, 3) := by decide +kernel
theorem f_24_8 : decode (mB 24) 8 = .ok (.isub, 1) := by decide +kernel
theorem f_24_9 : decode (mB 24) 9 = .ok (.ireturn, 1) := by decide +kernel
theorem f_25_0 : decode (mB 25) 0 = .ok (.iconst 0, 1) := by decide +kernel
theorem f_25_1 : decode (mB 25) 1 = .ok (.istore_n 2, 1) := by decide +kernel
theorem f_25_2 : decode (mB 25) 2 = .ok (.iconst 0, 1) := by decide +kernel
theorem f_25_3 : decode (mB 25) 3 = .ok (.istore_n 3, 1) := by decide +kernel
theorem f_25_4 : decode (mB 25) 4 = .ok (.iload_n 3, 1) := by decide +kernel
theorem f_25_5 : decode (mB 25) 5 = .ok (.aload_n 0, 1) := by decide +kernel
theorem f_25_6 : decode (mB 25) 6 = .ok (.getfield 55, 3) := by decide +kernel
theorem f_25_9 : decode (mB 25) 9 = .ok (.if_icmp .ge 38, 3) := by decide +kernel
theorem f_25_12 : decode (mB 25) 12 = .ok (.iload_n 2, 1) := by decide +kernel
theorem f_25_13 : decode (mB 25) 13 = .ok (.aload_n 0, 1) := by decide +kernel
theorem f_25_14 : decode (mB 25) 14 = .ok (.getfield 25, 3) := by decide +kernel
theorem f_25_17 : decode (mB 25) 17 = .ok (.iload_n 3, 1) := by decide +kernel
theorem f_25_18 : decode (mB 25) 18 = .ok (.aaload, 1) := by decide +kernel
theorem f_25_19 : decode (mB 25) 19 = .ok (.getfield 152, 3) := by decide +kernel
theorem f_25_22 : decode (mB 25) 22 = .ok (.iload_n 1, 1) := by decide +kernel
theorem f_25_23 : decode (mB 25) 23 = .ok (.if_icmp .ne 15, 3) := by decide +kernel
theorem f_25_26 : decode (mB 25) 26 = .ok (.aload_n 0, 1) := by decide +kernel
theorem f_25_27 : decode (mB 25) 27 = .ok (.getfield 25, 3) := by decide +kernel
theorem f_25_30 : decode (mB 25) 30 = .ok (.iload_n 3, 1) := by decide +kernel
theorem f_25_31 : decode (mB 25) 31 = .ok (.aaload, 1) := by decide +kernel
theorem f_25_32 : decode (mB 25) 32 = .ok (.invokevirtual 188, 3) := by decide +kernel
theorem f_25_35 : decode (mB 25) 35 = .ok (.goto 4, 3) := by decide +kernel
theorem f_25_38 : decode (mB 25) 38 = .ok (.iconst 0, 1) := by decide +kernel
theorem f_25_39 : decode (mB 25) 39 = .ok (.iadd, 1) := by decide +kernel
theorem f_25_40 : decode (mB 25) 40 = .ok (.istore_n 2, 1) := by decide +kernel
theorem f_25_41 : decode (mB 25) 41 = .ok (.iinc 3 1, 3) := by decide +kernel
theorem f_25_44 : decode (mB 25) 44 = .ok (.goto (-40), 3) := by decide +kernel
theorem f_25_47 : decode (mB 25) 47 = .ok (.iload_n 2, 1) := by decide +kernel
theorem f_25_48 : decode (mB 25) 48 = .ok (.ireturn, 1) := by decide +kernel
theorem f_26_0 : decode (mB 26) 0 = .ok (.iconst 0, 1) := by decide +kernel
theorem f_26_1 : decode (mB 26) 1 = .ok (.istore_n 2, 1) := by decide +kernel
theorem f_26_2 : decode (mB 26) 2 = .ok (.iconst 0, 1) := by decide +kernel
theorem f_26_3 : decode (mB 26) 3 = .ok (.istore_n 3, 1) := by decide +kernel
theorem f_26_4 : decode (mB 26) 4 = .ok (.iload_n 3, 1) := by decide +kernel
theorem f_26_5 : decode (mB 26) 5 = .ok (.aload_n 0, 1) := by decide +kernel
theorem f_26_6 : decode (mB 26) 6 = .ok (.getfield 52, 3) := by decide +kernel
theorem f_26_9 : decode (mB 26) 9 = .ok (.if_icmp .ge 35, 3) := by decide +kernel
theorem f_26_12 : decode (mB 26) 12 = .ok (.iload_n 2, 1) := by decide +kernel
theorem f_26_13 : decode (mB 26) 13 = .ok (.aload_n 0, 1) := by decide +kernel
theorem f_26_14 : decode (mB 26) 14 = .ok (.getfield 19, 3) := by decide +kernel
theorem f_26_17 : decode (mB 26) 17 = .ok (.iload_n 3, 1) := by decide +kernel
theorem f_26_18 : decode (mB 26) 18 = .ok (.aaload, 1) := by decide +kernel
theorem f_26_19 : decode (mB 26) 19 = .ok (.getfield 155, 3) := by decide +kernel
theorem f_26_22 : decode (mB 26) 22 = .ok (.iload_n 1, 1) := by decide +kernel
theorem f_26_23 : decode (mB 26) 23 = .ok (.if_icmp .ne 7, 3) := by decide +kernel
theorem f_26_26 : decode (mB 26) 26 = .ok (.iconst 1, 1) := by decide +kernel
theorem f_26_27 : decode (mB 26) 27 = .ok (.goto 4, 3) := by decide +kernel
theorem f_26_30 : decode (mB 26) 30 = .ok (.iconst 0, 1) := by decide +kernel
theorem f_26_31 : decode (mB 26) 31 = .ok (.invokestatic 127, 3) := by decide +kernel
theorem f_26_34 : decode (mB 26) 34 = .ok (.iload_n 3, 1) := by decide +kernel
theorem f_26_35 : decode (mB 26) 35 = .ok (.ishl, 1) := by decide +kernel
theorem f_26_36 : decode (mB 26) 36 = .ok (.ior, 1) := by decide +kernel
theorem f_26_37 : decode (mB 26) 37 = .ok (.istore_n 2, 1) := by decide +kernel
theorem f_26_38 : decode (mB 26) 38 = .ok (.iinc 3 1, 3) := by decide +kernel
theorem f_26_41 : decode (mB 26) 41 = .ok (.goto (-37), 3) := by decide +kernel
theorem f_26_44 : decode (mB 26) 44 = .ok (.iload_n 2, 1) := by decide +kernel
theorem f_26_45 : decode (mB 26) 45 = .ok (.ireturn, 1) := by decide +kernel
theorem f_27_0 : decode (mB 27) 0 = .ok (.iload_n 0, 1) := by decide +kernel
theorem f_27_1 : decode (mB 27) 1 = .ok (.ifCond .eq 7, 3) := by decide +kernel
theorem f_27_4 : decode (mB 27) 4 = .ok (.iconst 1, 1) := by decide +kernel
theorem f_27_5 : decode (mB 27) 5 = .ok (.goto 4, 3) := by decide +kernel
theorem f_27_8 : decode (mB 27) 8 = .ok (.iconst 0, 1) := by decide +kernel
theorem f_27_9 : decode (mB 27) 9 = .ok (.ireturn, 1) := by decide +kernel
theorem f_28_0 : decode (mB 28) 0 = .ok (.aload_n 0, 1) := by decide +kernel
theorem f_28_1 : decode (mB 28) 1 = .ok (.getfield 10, 3) := by decide +kernel
theorem f_28_4 : decode (mB 28) 4 = .ok (.iload_n 1, 1) := by decide +kernel
theorem f_28_5 : decode (mB 28) 5 = .ok (.invokevirtual 102, 3) := by decide +kernel
theorem f_28_8 : decode (mB 28) 8 = .ok (.ifCond .eq 13, 3) := by decide +kernel
theorem f_28_11 : decode (mB 28) 11 = .ok (.iload_n 2, 1) := by decide +kernel
theorem f_28_12 : decode (mB 28) 12 = .ok (.iconst 1, 1) := by decide +kernel
theorem f_28_13 : decode (mB 28) 13 = .ok (.bipush 99, 2) := by decide +kernel
theorem f_28_15 : decode (mB 28) 15 = .ok (.invokestatic 75, 3) := by decide +kernel
theorem f_28_18 : decode (mB 28) 18 = .ok (.ifCond .ne 10, 3) := by decide +kernel
theorem f_28_21 : decode (mB 28) 21 = .ok (.aload_n 0, 1) := by decide +kernel
theorem f_28_22 : decode (mB 28) 22 = .ok (.ldc 83, 2) := by decide +kernel
theorem f_28_24 : decode (mB 28) 24 = .ok (.invokevirtual 84, 3) := by decide +kernel
theorem f_28_27 : decode (mB 28) 27 = .ok (.ireturn, 1) := by decide +kernel
theorem f_28_28 : decode (mB 28) 28 = .ok (.aload_n 0, 1) := by decide +kernel
theorem f_28_29 : decode (mB 28) 29 = .ok (.getfield 10, 3) := by decide +kernel
theorem f_28_32 : decode (mB 28) 32 = .ok (.getfield 147, 3) := by decide +kernel
theorem f_28_35 : decode (mB 28) 35 = .ok (.bipush 8, 2) := by decide +kernel
theorem f_28_37 : decode (mB 28) 37 = .ok (.if_icmp .lt 10, 3) := by decide +kernel
theorem f_28_40 : decode (mB 28) 40 = .ok (.aload_n 0, 1) := by decide +kernel
theorem f_28_41 : decode (mB 28) 41 = .ok (.ldc 91, 2) := by decide +kernel
theorem f_28_43 : decode (mB 28) 43 = .ok (.invokevirtual 84, 3) := by decide +kernel
theorem f_28_46 : decode (mB 28) 46 = .ok (.ireturn, 1) := by decide +kernel
theorem f_28_47 : decode (mB 28) 47 = .ok (.aload_n 0, 1) := by decide +kernel
theorem f_28_48 : decode (mB 28) 48 = .ok (.getfield 10, 3) := by decide +kernel
theorem f_28_51 : decode (mB 28) 51 = .ok (.getfield 150, 3) := by decide +kernel
theorem f_28_54 : decode (mB 28) 54 = .ok (.aload_n 0, 1) := by decide +kernel
theorem f_28_55 : decode (mB 28) 55 = .ok (.getfield 10, 3) := by decide +kernel
theorem f_28_58 : decode (mB 28) 58 = .ok (.getfield 147, 3) := by decide +kernel
theorem f_28_61 : decode (mB 28) 61 = .ok (.aaload, 1) := by decide +kernel
theorem f_28_62 : decode (mB 28) 62 = .ok (.iload_n 1, 1) := by decide +kernel
theorem f_28_63 : decode (mB 28) 63 = .ok (.iload_n 2, 1) := by decide +kernel
theorem f_28_64 : decode (mB 28) 64 = .ok (.iload_n 3, 1) := by decide +kernel
theorem f_28_65 : decode (mB 28) 65 = .ok (.invokevirtual 154, 3) := by decide +kernel
theorem f_28_68 : decode (mB 28) 68 = .ok (.aload_n 0, 1) := by decide +kernel
theorem f_28_69 : decode (mB 28) 69 = .ok (.getfield 10, 3) := by decide +kernel
theorem f_28_72 : decode (mB 28) 72 = .ok (.dup, 1) := by decide +kernel
theorem f_28_73 : decode (mB 28) 73 = .ok (.getfield 147, 3) := by decide +kernel
theorem f_28_76 : decode (mB 28) 76 = .ok (.dup_x1, 1) := by decide +kernel
theorem f_28_77 : decode (mB 28) 77 = .ok (.iconst 1, 1) := by decide +kernel
theorem f_28_78 : decode (mB 28) 78 = .ok (.iadd, 1) := by decide +kernel
theorem f_28_79 : decode (mB 28) 79 = .ok (.putfield 147, 3) := by decide +kernel
theorem f_28_82 : decode (mB 28) 82 = .ok (.ireturn, 1) := by decide +kernel
theorem f_29_0 : decode (mB 29) 0 = .ok (.aload_n 0, 1) := by decide +kernel
theorem f_29_1 : decode (mB 29) 1 = .ok (.iload_n 1, 1) := by decide +kernel
theorem f_29_2 : decode (mB 29) 2 = .ok (.putfield 7, 3) := by decide +kernel
theorem f_29_5 : decode (mB 29) 5 = .ok (.aload_n 0, 1) := by decide +kernel
theorem f_29_6 : decode (mB 29) 6 = .ok (.iload_n 2, 1) := by decide +kernel
theorem f_29_7 : decode (mB 29) 7 = .ok (.putfield 13, 3) := by decide +kernel
theorem f_29_10 : decode (mB 29) 10 = .ok (.aload_n 0, 1) := by decide +kernel
theorem f_29_11 : decode (mB 29) 11 = .ok (.iload_n 1, 1) := by decide +kernel
theorem f_29_12 : decode (mB 29) 12 = .ok (.putfield 16, 3) := by decide +kernel
theorem f_29_15 : decode (mB 29) 15 = .ok (.aload_n 0, 1) := by decide +kernel
theorem f_29_16 : decode (mB 29) 16 = .ok (.iload_n 3, 1) := by decide +kernel
theorem f_29_17 : decode (mB 29) 17 = .ok (.putfield 19, 3) := by decide +kernel
theorem f_29_20 : decode (mB 29) 20 = .ok (.return_, 1) := by decide +kernel
theorem f_30_0 : decode (mB 30) 0 = .ok (.aload_n 0, 1) := by decide +kernel
theorem f_30_1 : decode (mB 30) 1 = .ok (.getfield 10, 3) := by decide +kernel
theorem f_30_4 : decode (mB 30) 4 = .ok (.iload_n 1, 1) := by decide +kernel
theorem f_30_5 : decode (mB 30) 5 = .ok (.invokevirtual 159, 3) := by decide +kernel
theorem f_30_8 : decode (mB 30) 8 = .ok (.ifCond .ne 10, 3) := by decide +kernel
theorem f_30_11 : decode (mB 30) 11 = .ok (.aload_n 0, 1) := by decide +kernel
theorem f_30_12 : decode (mB 30) 12 = .ok (.ldc 83, 2) := by decide +kernel
theorem f_30_14 : decode (mB 30) 14 = .ok (.invokevirtual 84, 3) := by decide +kernel
theorem f_30_17 : decode (mB 30) 17 = .ok (.ireturn, 1) := by decide +kernel
theorem f_30_18 : decode (mB 30) 18 = .ok (.aload_n 0, 1) := by decide +kernel
theorem f_30_19 : decode (mB 30) 19 = .ok (.getfield 10, 3) := by decide +kernel
theorem f_30_22 : decode (mB 30) 22 = .ok (.getfield 150, 3) := by decide +kernel
theorem f_30_25 : decode (mB 30) 25 = .ok (.iload_n 1, 1) := by decide +kernel
theorem f_30_26 : decode (mB 30) 26 = .ok (.aaload, 1) := by decide +kernel
theorem f_30_27 : decode (mB 30) 27 = .ok (.astore_n 3, 1) := by decide +kernel
theorem f_30_28 : decode (mB 30) 28 = .ok (.iload_n 2, 1) := by decide +kernel
theorem f_30_29 : decode (mB 30) 29 = .ok (.tableswitch 54 0 3 #[31, 36, 41, 46], 31) := by decide +kernel
theorem f_30_60 : decode (mB 30) 60 = .ok (.aload_n 3, 1) := by decide +kernel
theorem f_30_61 : decode (mB 30) 61 = .ok (.getfield 162, 3) := by decide +kernel
theorem f_30_64 : decode (mB 30) 64 = .ok (.ireturn, 1) := by decide +kernel
theorem f_30_65 : decode (mB 30) 65 = .ok (.aload_n 3, 1) := by decide +kernel
theorem f_30_66 : decode (mB 30) 66 = .ok (.getfield 165, 3) := by decide +kernel
theorem f_30_69 : decode (mB 30) 69 = .ok (.ireturn, 1) := by decide +kernel
theorem f_30_70 : decode (mB 30) 70 = .ok (.aload_n 3, 1) := by decide +kernel
theorem f_30_71 : decode (mB 30) 71 = .ok (.getfield 168, 3) := by decide +kernel
theorem f_30_74 : decode (mB 30) 74 = .ok (.ireturn, 1) := by decide +kernel
theorem f_30_75 : decode (mB 30) 75 = .ok (.aload_n 3, 1) := by decide +kernel
theorem f_30_76 : decode (mB 30) 76 = .ok (.getfield 171, 3) := by decide +kernel
theorem f_30_79 : decode (mB 30) 79 = .ok (.invokestatic 172, 3) := by decide +kernel
theorem f_30_82 : decode (mB 30) 82 = .ok (.ireturn, 1) := by decide +kernel
theorem f_30_83 : decode (mB 30) 83 = .ok (.aload_n 0, 1) := by decide +kernel
theorem f_30_84 : decode (mB 30) 84 = .ok (.ldc 83, 2) := by decide +kernel
theorem f_30_86 : decode (mB 30) 86 = .ok (.invokevirtual 84, 3) := by decide +kernel
theorem f_30_89 : decode (mB 30) 89 = .ok (.ireturn, 1) := by decide +kernel
theorem f_31_0 : decode (mB 31) 0 = .ok (.iload_n 1, 1) := by decide +kernel
theorem f_31_1 : decode (mB 31) 1 = .ok (.iconst 0, 1) := by decide +kernel
theorem f_31_2 : decode (mB 31) 2 = .ok (.aload_n 0, 1) := by decide +kernel
theorem f_31_3 : decode (mB 31) 3 = .ok (.getfield 52, 3) := by decide +kernel
theorem f_31_6 : decode (mB 31) 6 = .ok (.iconst 1, 1) := by decide +kernel
theorem f_31_7 : decode (mB 31) 7 = .ok (.isub, 1) := by decide +kernel
theorem f_31_8 : decode (mB 31) 8 = .ok (.invokestatic 104, 3) := by decide +kernel
theorem f_31_11 : decode (mB 31) 11 = .ok (.ireturn, 1) := by decide +kernel
theorem f_32_0 : decode (mB 32) 0 = .ok (.aload_n 0, 1) := by decide +kernel
theorem f_32_1 : decode (mB 32) 1 = .ok (.getfield 10, 3) := by decide +kernel
theorem f_32_4 : decode (mB 32) 4 = .ok (.iload_n 1, 1) := by decide +kernel
theorem f_32_5 : decode (mB 32) 5 = .ok (.invokevirtual 102, 3) := by decide +kernel
theorem f_32_8 : decode (mB 32) 8 = .ok (.ifCond .eq 14, 3) := by decide +kernel
theorem f_32_11 : decode (mB 32) 11 = .ok (.aload_n 0, 1) := by decide +kernel
theorem f_32_12 : decode (mB 32) 12 = .ok (.getfield 10, 3) := by decide +kernel
theorem f_32_15 : decode (mB 32) 15 = .ok (.iload_n 1, 1) := by decide +kernel
theorem f_32_16 : decode (mB 32) 16 = .ok (.invokevirtual 176, 3) := by decide +kernel
theorem f_32_19 : decode (mB 32) 19 = .ok (.goto 9, 3) := by decide +kernel
theorem f_32_22 : decode (mB 32) 22 = .ok (.aload_n 0, 1) := by decide +kernel
theorem f_32_23 : decode (mB 32) 23 = .ok (.ldc 83, 2) := by decide +kernel
theorem f_32_25 : decode (mB 32) 25 = .ok (.invokevirtual 84, 3) := by decide +kernel
theorem f_32_28 : decode (mB 32) 28 = .ok (.ireturn, 1) := by decide +kernel
theorem f_33_0 : decode (mB 33) 0 = .ok (.aload_n 0, 1) := by decide +kernel
theorem f_33_1 : decode (mB 33) 1 = .ok (.iload_n 1, 1) := by decide +kernel
theorem f_33_2 : decode (mB 33) 2 = .ok (.iconst 0, 1) := by decide +kernel
theorem f_33_3 : decode (mB 33) 3 = .ok (.invokevirtual 112, 3) := by decide +kernel
theorem f_33_6 : decode (mB 33) 6 = .ok (.ireturn, 1) := by decide +kernel
theorem f_34_0 : decode (mB 34) 0 = .ok (.aload_n 0, 1) := by decide +kernel
theorem f_34_1 : decode (mB 34) 1 = .ok (.getfield 11, 3) := by decide +kernel
theorem f_34_4 : decode (mB 34) 4 = .ok (.iload_n 1, 1) := by decide +kernel
theorem f_34_5 : decode (mB 34) 5 = .ok (.aaload, 1) := by decide +kernel
theorem f_34_6 : decode (mB 34) 6 = .ok (.invokevirtual 116, 3) := by decide +kernel
theorem f_34_9 : decode (mB 34) 9 = .ok (.ifCond .ne 7, 3) := by decide +kernel
theorem f_34_12 : decode (mB 34) 12 = .ok (.iconst 1, 1) := by decide +kernel
theorem f_34_13 : decode (mB 34) 13 = .ok (.iload_n 1, 1) := by decide +kernel
theorem f_34_14 : decode (mB 34) 14 = .ok (.ishl, 1) := by decide +kernel
theorem f_34_15 : decode (mB 34) 15 = .ok (.ireturn, 1) := by decide +kernel
theorem f_34_16 : decode (mB 34) 16 = .ok (.iconst 0, 1) := by decide +kernel
theorem f_34_17 : decode (mB 34) 17 = .ok (.istore_n 3, 1) := by decide +kernel
theorem f_34_18 : decode (mB 34) 18 = .ok (.iload_n 1, 1) := by decide +kernel
theorem f_34_19 : decode (mB 34) 19 = .ok (.iconst 1, 1) := by decide +kernel
theorem f_34_20 : decode (mB 34) 20 = .ok (.iadd, 1) := by decide +kernel
theorem f_34_21 : decode (mB 34) 21 = .ok (.istore 4, 2) := by decide +kernel
theorem f_34_23 : decode (mB 34) 23 = .ok (.iload 4, 2) := by decide +kernel
theorem f_34_25 : decode (mB 34) 25 = .ok (.aload_n 0, 1) := by decide +kernel
theorem f_34_26 : decode (mB 34) 26 = .ok (.getfield 48, 3) := by decide +kernel
theorem f_34_29 : decode (mB 34) 29 = .ok (.if_icmp .ge 40, 3) := by decide +kernel
theorem f_34_32 : decode (mB 34) 32 = .ok (.iload_n 2, 1) := by decide +kernel
theorem f_34_33 : decode (mB 34) 33 = .ok (.iconst 5, 1) := by decide +kernel
theorem f_34_34 : decode (mB 34) 34 = .ok (.if_icmp .ge 35, 3) := by decide +kernel
theorem f_34_37 : decode (mB 34) 37 = .ok (.aload_n 0, 1) := by decide +kernel
theorem f_34_38 : decode (mB 34) 38 = .ok (.getfield 11, 3) := by decide +kernel
theorem f_34_41 : decode (mB 34) 41 = .ok (.iload 4, 2) := by decide +kernel
theorem f_34_43 : decode (mB 34) 43 = .ok (.aaload, 1) := by decide +kernel
theorem f_34_44 : decode (mB 34) 44 = .ok (.iload_n 1, 1) := by decide +kernel
theorem f_34_45 : decode (mB 34) 45 = .ok (.invokevirtual 120, 3) := by decide +kernel
theorem f_34_48 : decode (mB 34) 48 = .ok (.ifCond .eq 15, 3) := by decide +kernel
theorem f_34_51 : decode (mB 34) 51 = .ok (.iload_n 3, 1) := by decide +kernel
theorem f_34_52 : decode (mB 34) 52 = .ok (.aload_n 0, 1) := by decide +kernel
theorem f_34_53 : decode (mB 34) 53 = .ok (.iload 4, 2) := by decide +kernel
theorem f_34_55 : decode (mB 34) 55 = .ok (.iload_n 2, 1) := by decide +kernel
theorem f_34_56 : decode (mB 34) 56 = .ok (.iconst 1, 1) := by decide +kernel
theorem f_34_57 : decode (mB 34) 57 = .ok (.iadd, 1) := by decide +kernel
theorem f_34_58 : decode (mB 34) 58 = .ok (.invokevirtual 112, 3) := by decide +kernel
theorem f_34_61 : decode (mB 34) 61 = .ok (.ior, 1) := by decide +kernel
theorem f_34_62 : decode (mB 34) 62 = .ok (.istore_n 3, 1) := by decide +kernel
theorem f_34_63 : decode (mB 34) 63 = .ok (.iinc 4 1, 3) := by decide +kernel
theorem f_34_66 : decode (mB 34) 66 = .ok (.goto (-43), 3) := by decide +kernel
theorem f_34_69 : decode (mB 34) 69 = .ok (.iload_n 3, 1) := by decide +kernel
theorem f_34_70 : decode (mB 34) 70 = .ok (.ireturn, 1) := by decide +kernel
theorem f_35_0 : decode (mB 35) 0 = .ok (.aload_n 0, 1) := by decide +kernel
theorem f_35_1 : decode (mB 35) 1 = .ok (.getfield 13, 3) := by decide +kernel
theorem f_35_4 : decode (mB 35) 4 = .ok (.iload_n 1, 1) := by decide +kernel
theorem f_35_5 : decode (mB 35) 5 = .ok (.if_icmp .eq 11, 3) := by decide +kernel
theorem f_35_8 : decode (mB 35) 8 = .ok (.aload_n 0, 1) := by decide +kernel
theorem f_35_9 : decode (mB 35) 9 = .ok (.getfield 16, 3) := by decide +kernel
theorem f_35_12 : decode (mB 35) 12 = .ok (.iload_n 1, 1) := by decide +kernel
theorem f_35_13 : decode (mB 35) 13 = .ok (.if_icmp .ne 7, 3) := by decide +kernel
theorem f_35_16 : decode (mB 35) 16 = .ok (.iconst 1, 1) := by decide +kernel
theorem f_35_17 : decode (mB 35) 17 = .ok (.goto 4, 3) := by decide +kernel
theorem f_35_20 : decode (mB 35) 20 = .ok (.iconst 0, 1) := by decide +kernel
theorem f_35_21 : decode (mB 35) 21 = .ok (.ireturn, 1) := by decide +kernel
theorem f_36_0 : decode (mB 36) 0 = .ok (.aload_n 0, 1) := by decide +kernel
theorem f_36_1 : decode (mB 36) 1 = .ok (.getfield 10, 3) := by decide +kernel
theorem f_36_4 : decode (mB 36) 4 = .ok (.iload_n 1, 1) := by decide +kernel
theorem f_36_5 : decode (mB 36) 5 = .ok (.invokevirtual 102, 3) := by decide +kernel
theorem f_36_8 : decode (mB 36) 8 = .ok (.ifCond .eq 14, 3) := by decide +kernel
theorem f_36_11 : decode (mB 36) 11 = .ok (.aload_n 0, 1) := by decide +kernel
theorem f_36_12 : decode (mB 36) 12 = .ok (.getfield 10, 3) := by decide +kernel
theorem f_36_15 : decode (mB 36) 15 = .ok (.iload_n 2, 1) := by decide +kernel
theorem f_36_16 : decode (mB 36) 16 = .ok (.invokevirtual 102, 3) := by decide +kernel
theorem f_36_19 : decode (mB 36) 19 = .ok (.ifCond .ne 10, 3) := by decide +kernel
theorem f_36_22 : decode (mB 36) 22 = .ok (.aload_n 0, 1) := by decide +kernel
theorem f_36_23 : decode (mB 36) 23 = .ok (.ldc 83, 2) := by decide +kernel
theorem f_36_25 : decode (mB 36) 25 = .ok (.invokevirtual 84, 3) := by decide +kernel
theorem f_36_28 : decode (mB 36) 28 = .ok (.ireturn, 1) := by decide +kernel
theorem f_36_29 : decode (mB 36) 29 = .ok (.aload_n 0, 1) := by decide +kernel
theorem f_36_30 : decode (mB 36) 30 = .ok (.getfield 10, 3) := by decide +kernel
theorem f_36_33 : decode (mB 36) 33 = .ok (.iload_n 1, 1) := by decide +kernel
theorem f_36_34 : decode (mB 36) 34 = .ok (.iload_n 2, 1) := by decide +kernel
theorem f_36_35 : decode (mB 36) 35 = .ok (.invokevirtual 179, 3) := by decide +kernel
theorem f_36_38 : decode (mB 36) 38 = .ok (.istore_n 3, 1) := by decide +kernel
theorem f_36_39 : decode (mB 36) 39 = .ok (.iload_n 3, 1) := by decide +kernel
theorem f_36_40 : decode (mB 36) 40 = .ok (.ifCond .le 7, 3) := by decide +kernel
theorem f_36_43 : decode (mB 36) 43 = .ok (.iload_n 3, 1) := by decide +kernel
theorem f_36_44 : decode (mB 36) 44 = .ok (.goto 9, 3) := by decide +kernel
theorem f_36_47 : decode (mB 36) 47 = .ok (.aload_n 0, 1) := by decide +kernel
theorem f_36_48 : decode (mB 36) 48 = .ok (.ldc 182, 2) := by decide +kernel
theorem f_36_50 : decode (mB 36) 50 = .ok (.invokevirtual 84, 3) := by decide +kernel
theorem f_36_53 : decode (mB 36) 53 = .ok (.ireturn, 1) := by decide +kernel
theorem f_37_0 : decode (mB 37) 0 = .ok (.aload_n 0, 1) := by decide +kernel
theorem f_37_1 : decode (mB 37) 1 = .ok (.iload_n 1, 1) := by decide +kernel
theorem f_37_2 : decode (mB 37) 2 = .ok (.iload_n 2, 1) := by decide +kernel
theorem f_37_3 : decode (mB 37) 3 = .ok (.iconst 0, 1) := by decide +kernel
theorem f_37_4 : decode (mB 37) 4 = .ok (.invokevirtual 123, 3) := by decide +kernel
theorem f_37_7 : decode (mB 37) 7 = .ok (.ireturn, 1) := by decide +kernel
theorem f_38_0 : decode (mB 38) 0 = .ok (.aload_n 0, 1) := by decide +kernel
theorem f_38_1 : decode (mB 38) 1 = .ok (.getfield 11, 3) := by decide +kernel
theorem f_38_4 : decode (mB 38) 4 = .ok (.iload_n 1, 1) := by decide +kernel
theorem f_38_5 : decode (mB 38) 5 = .ok (.aaload, 1) := by decide +kernel
theorem f_38_6 : decode (mB 38) 6 = .ok (.invokevirtual 116, 3) := by decide +kernel
theorem f_38_9 : decode (mB 38) 9 = .ok (.ifCond .ne 17, 3) := by decide +kernel
theorem f_38_12 : decode (mB 38) 12 = .ok (.iload_n 1, 1) := by decide +kernel
theorem f_38_13 : decode (mB 38) 13 = .ok (.iload_n 2, 1) := by decide +kernel
theorem f_38_14 : decode (mB 38) 14 = .ok (.if_icmp .ne 7, 3) := by decide +kernel
theorem f_38_17 : decode (mB 38) 17 = .ok (.iconst 1, 1) := by decide +kernel
theorem f_38_18 : decode (mB 38) 18 = .ok (.goto 4, 3) := by decide +kernel
theorem f_38_21 : decode (mB 38) 21 = .ok (.iconst 0, 1) := by decide +kernel
theorem f_38_22 : decode (mB 38) 22 = .ok (.invokestatic 127, 3) := by decide +kernel
theorem f_38_25 : decode (mB 38) 25 = .ok (.ireturn, 1) := by decide +kernel
theorem f_38_26 : decode (mB 38) 26 = .ok (.iconst 0, 1) := by decide +kernel
theorem f_38_27 : decode (mB 38) 27 = .ok (.istore 4, 2) := by decide +kernel
theorem f_38_29 : decode (mB 38) 29 = .ok (.iconst 0, 1) := by decide +kernel
theorem f_38_30 : decode (mB 38) 30 = .ok (.istore 5, 2) := by decide +kernel
theorem f_38_32 : decode (mB 38) 32 = .ok (.iload_n 1, 1) := by decide +kernel
theorem f_38_33 : decode (mB 38) 33 = .ok (.iconst 1, 1) := by decide +kernel
theorem f_38_34 : decode (mB 38) 34 = .ok (.iadd, 1) := by decide +kernel
theorem f_38_35 : decode (mB 38) 35 = .ok (.istore 6, 2) := by decide +kernel
theorem f_38_37 : decode (mB 38) 37 = .ok (.iload 6, 2) := by decide +kernel
theorem f_38_39 : decode (mB 38) 39 = .ok (.aload_n 0, 1) := by decide +kernel
theorem f_38_40 : decode (mB 38) 40 = .ok (.getfield 48, 3) := by decide +kernel
theorem f_38_43 : decode (mB 38) 43 = .ok (.if_icmp .ge 76, 3) := by decide +kernel
theorem f_38_46 : decode (mB 38) 46 = .ok (.iload_n 3, 1) := by decide +kernel
theorem f_38_47 : decode (mB 38) 47 = .ok (.iconst 5, 1) := by decide +kernel
theorem f_38_48 : decode (mB 38) 48 = .ok (.if_icmp .ge 71, 3) := by decide +kernel
theorem f_38_51 : decode (mB 38) 51 = .ok (.aload_n 0, 1) := by decide +kernel
theorem f_38_52 : decode (mB 38) 52 = .ok (.getfield 11, 3) := by decide +kernel
theorem f_38_55 : decode (mB 38) 55 = .ok (.iload 6, 2) := by decide +kernel
theorem f_38_57 : decode (mB 38) 57 = .ok (.aaload, 1) := by decide +kernel
theorem f_38_58 : decode (mB 38) 58 = .ok (.iload_n 1, 1) := by decide +kernel
theorem f_38_59 : decode (mB 38) 59 = .ok (.invokevirtual 120, 3) := by decide +kernel
theorem f_38_62 : decode (mB 38) 62 = .ok (.ifCond .eq 51, 3) := by decide +kernel
theorem f_38_65 : decode (mB 38) 65 = .ok (.aload_n 0, 1) := by decide +kernel
theorem f_38_66 : decode (mB 38) 66 = .ok (.iload 6, 2) := by decide +kernel
theorem f_38_68 : decode (mB 38) 68 = .ok (.iload_n 3, 1) := by decide +kernel
theorem f_38_69 : decode (mB 38) 69 = .ok (.iconst 1, 1) := by decide +kernel
theorem f_38_70 : decode (mB 38) 70 = .ok (.iadd, 1) := by decide +kernel
theorem f_38_71 : decode (mB 38) 71 = .ok (.invokevirtual 112, 3) := by decide +kernel
theorem f_38_74 : decode (mB 38) 74 = .ok (.ifCond .eq 39, 3) := by decide +kernel
theorem f_38_77 : decode (mB 38) 77 = .ok (.iinc 4 1, 3) := by decide +kernel
theorem f_38_80 : decode (mB 38) 80 = .ok (.aload_n 0, 1) := by decide +kernel
theorem f_38_81 : decode (mB 38) 81 = .ok (.iload 6, 2) := by decide +kernel
theorem f_38_83 : decode (mB 38) 83 = .ok (.iload_n 2, 1) := by decide +kernel
theorem f_38_84 : decode (mB 38) 84 = .ok (.iload_n 3, 1) := by decide +kernel
theorem f_38_85 : decode (mB 38) 85 = .ok (.iconst 1, 1) := by decide +kernel
theorem f_38_86 : decode (mB 38) 86 = .ok (.iadd, 1) := by decide +kernel
theorem f_38_87 : decode (mB 38) 87 = .ok (.invokevirtual 123, 3) := by decide +kernel
theorem f_38_90 : decode (mB 38) 90 = .ok (.istore 7, 2) := by decide +kernel
theorem f_38_92 : decode (mB 38) 92 = .ok (.iload 7, 2) := by decide +kernel
theorem f_38_94 : decode (mB 38) 94 = .ok (.ifCond .le 19, 3) := by decide +kernel
theorem f_38_97 : decode (mB 38) 97 = .ok (.iload 5, 2) := by decide +kernel
theorem f_38_99 : decode (mB 38) 99 = .ok (.ifCond .eq 10, 3) := by decide +kernel
theorem f_38_102 : decode (mB 38) 102 = .ok (.iload 7, 2) := by decide +kernel
theorem f_38_104 : decode (mB 38) 104 = .ok (.iload 5, 2) := by decide +kernel
theorem f_38_106 : decode (mB 38) 106 = .ok (.if_icmp .ge 7, 3) := by decide +kernel
theorem f_38_109 : decode (mB 38) 109 = .ok (.iload 7, 2) := by decide +kernel
theorem f_38_111 : decode (mB 38) 111 = .ok (.istore 5, 2) := by decide +kernel
theorem f_38_113 : decode (mB 38) 113 = .ok (.iinc 6 1, 3) := by decide +kernel
theorem f_38_116 : decode (mB 38) 116 = .ok (.goto (-79), 3) := by decide +kernel
theorem f_38_119 : decode (mB 38) 119 = .ok (.iload 5, 2) := by decide +kernel
theorem f_38_121 : decode (mB 38) 121 = .ok (.iload 4, 2) := by decide +kernel
theorem f_38_123 : decode (mB 38) 123 = .ok (.imul, 1) := by decide +kernel
theorem f_38_124 : decode (mB 38) 124 = .ok (.ireturn, 1) := by decide +kernel
theorem f_39_0 : decode (mB 39) 0 = .ok (.iload_n 2, 1) := by decide +kernel
theorem f_39_1 : decode (mB 39) 1 = .ok (.bipush 100, 2) := by decide +kernel
theorem f_39_3 : decode (mB 39) 3 = .ok (.idiv, 1) := by decide +kernel
theorem f_39_4 : decode (mB 39) 4 = .ok (.istore 6, 2) := by decide +kernel
theorem f_39_6 : decode (mB 39) 6 = .ok (.iload_n 2, 1) := by decide +kernel
theorem f_39_7 : decode (mB 39) 7 = .ok (.bipush 100, 2) := by decide +kernel
theorem f_39_9 : decode (mB 39) 9 = .ok (.irem, 1) := by decide +kernel
theorem f_39_10 : decode (mB 39) 10 = .ok (.istore 7, 2) := by decide +kernel
theorem f_39_12 : decode (mB 39) 12 = .ok (.iload_n 1, 1) := by decide +kernel
theorem f_39_13 : decode (mB 39) 13 = .ok (.iconst 0, 1) := by decide +kernel
theorem f_39_14 : decode (mB 39) 14 = .ok (.bipush 6, 2) := by decide +kernel
theorem f_39_16 : decode (mB 39) 16 = .ok (.invokestatic 75, 3) := by decide +kernel
theorem f_39_19 : decode (mB 39) 19 = .ok (.ifCond .eq 60, 3) := by decide +kernel
theorem f_39_22 : decode (mB 39) 22 = .ok (.iload_n 2, 1) := by decide +kernel
theorem f_39_23 : decode (mB 39) 23 = .ok (.ifCond .lt 56, 3) := by decide +kernel
theorem f_39_26 : decode (mB 39) 26 = .ok (.aload_n 0, 1) := by decide +kernel
theorem f_39_27 : decode (mB 39) 27 = .ok (.getfield 10, 3) := by decide +kernel
theorem f_39_30 : decode (mB 39) 30 = .ok (.iload 6, 2) := by decide +kernel
theorem f_39_32 : decode (mB 39) 32 = .ok (.invokevirtual 102, 3) := by decide +kernel
theorem f_39_35 : decode (mB 39) 35 = .ok (.ifCond .eq 44, 3) := by decide +kernel
theorem f_39_38 : decode (mB 39) 38 = .ok (.aload_n 0, 1) := by decide +kernel
theorem f_39_39 : decode (mB 39) 39 = .ok (.getfield 10, 3) := by decide +kernel
theorem f_39_42 : decode (mB 39) 42 = .ok (.iload 7, 2) := by decide +kernel
theorem f_39_44 : decode (mB 39) 44 = .ok (.invokevirtual 102, 3) := by decide +kernel
theorem f_39_47 : decode (mB 39) 47 = .ok (.ifCond .eq 32, 3) := by decide +kernel
theorem f_39_50 : decode (mB 39) 50 = .ok (.iload_n 3, 1) := by decide +kernel
theorem f_39_51 : decode (mB 39) 51 = .ok (.iconst 1, 1) := by decide +kernel
theorem f_39_52 : decode (mB 39) 52 = .ok (.sipush 9999, 3) := by decide +kernel
theorem f_39_55 : decode (mB 39) 55 = .ok (.invokestatic 75, 3) := by decide +kernel
theorem f_39_58 : decode (mB 39) 58 = .ok (.ifCond .eq 21, 3) := by decide +kernel
theorem f_39_61 : decode (mB 39) 61 = .ok (.iload 4, 2) := by decide +kernel
theorem f_39_63 : decode (mB 39) 63 = .ok (.aload_n 0, 1) := by decide +kernel
theorem f_39_64 : decode (mB 39) 64 = .ok (.getfield 10, 3) := by decide +kernel
theorem f_39_67 : decode (mB 39) 67 = .ok (.getfield 66, 3) := by decide +kernel
theorem f_39_70 : decode (mB 39) 70 = .ok (.sipush 400, 3) := by decide +kernel
theorem f_39_73 : decode (mB 39) 73 = .ok (.invokestatic 75, 3) := by decide +kernel
theorem f_39_76 : decode (mB 39) 76 = .ok (.ifCond .ne 10, 3) := by decide +kernel
theorem f_39_79 : decode (mB 39) 79 = .ok (.aload_n 0, 1) := by decide +kernel
theorem f_39_80 : decode (mB 39) 80 = .ok (.ldc 83, 2) := by decide +kernel
theorem f_39_82 : decode (mB 39) 82 = .ok (.invokevirtual 84, 3) := by decide +kernel
theorem f_39_85 : decode (mB 39) 85 = .ok (.ireturn, 1) := by decide +kernel
theorem f_39_86 : decode (mB 39) 86 = .ok (.iload 6, 2) := by decide +kernel
theorem f_39_88 : decode (mB 39) 88 = .ok (.iload 7, 2) := by decide +kernel
theorem f_39_90 : decode (mB 39) 90 = .ok (.if_icmp .ne 10, 3) := by decide +kernel
theorem f_39_93 : decode (mB 39) 93 = .ok (.aload_n 0, 1) := by decide +kernel
theorem f_39_94 : decode (mB 39) 94 = .ok (.ldc 183, 2) := by decide +kernel
theorem f_39_96 : decode (mB 39) 96 = .ok (.invokevirtual 84, 3) := by decide +kernel
theorem f_39_99 : decode (mB 39) 99 = .ok (.ireturn, 1) := by decide +kernel
theorem f_39_100 : decode (mB 39) 100 = .ok (.aload_n 0, 1) := by decide +kernel
theorem f_39_101 : decode (mB 39) 101 = .ok (.getfield 10, 3) := by decide +kernel
theorem f_39_104 : decode (mB 39) 104 = .ok (.getfield 92, 3) := by decide +kernel
theorem f_39_107 : decode (mB 39) 107 = .ok (.iload 6, 2) := by decide +kernel
theorem f_39_109 : decode (mB 39) 109 = .ok (.aaload, 1) := by decide +kernel
theorem f_39_110 : decode (mB 39) 110 = .ok (.invokevirtual 115, 3) := by decide +kernel
theorem f_39_113 : decode (mB 39) 113 = .ok (.ifCond .ne 19, 3) := by decide +kernel
theorem f_39_116 : decode (mB 39) 116 = .ok (.aload_n 0, 1) := by decide +kernel
theorem f_39_117 : decode (mB 39) 117 = .ok (.getfield 10, 3) := by decide +kernel
theorem f_39_120 : decode (mB 39) 120 = .ok (.getfield 92, 3) := by decide +kernel
theorem f_39_123 : decode (mB 39) 123 = .ok (.iload 7, 2) := by decide +kernel
theorem f_39_125 : decode (mB 39) 125 = .ok (.aaload, 1) := by decide +kernel
theorem f_39_126 : decode (mB 39) 126 = .ok (.invokevirtual 115, 3) := by decide +kernel
theorem f_39_129 : decode (mB 39) 129 = .ok (.ifCond .eq 10, 3) := by decide +kernel
theorem f_39_132 : decode (mB 39) 132 = .ok (.aload_n 0, 1) := by decide +kernel
theorem f_39_133 : decode (mB 39) 133 = .ok (.ldc 182, 2) := by decide +kernel
theorem f_39_135 : decode (mB 39) 135 = .ok (.invokevirtual 84, 3) := by decide +kernel
theorem f_39_138 : decode (mB 39) 138 = .ok (.ireturn, 1) := by decide +kernel
theorem f_39_139 : decode (mB 39) 139 = .ok (.iload_n 1, 1) := by decide +kernel
theorem f_39_140 : decode (mB 39) 140 = .ok (.iconst 2, 1) := by decide +kernel
theorem f_39_141 : decode (mB 39) 141 = .ok (.if_icmp .eq 13, 3) := by decide +kernel
theorem f_39_144 : decode (mB 39) 144 = .ok (.iload_n 1, 1) := by decide +kernel
theorem f_39_145 : decode (mB 39) 145 = .ok (.iconst 3, 1) := by decide +kernel
theorem f_39_146 : decode (mB 39) 146 = .ok (.if_icmp .eq 8, 3) := by decide +kernel
theorem f_39_149 : decode (mB 39) 149 = .ok (.iload_n 1, 1) := by decide +kernel
theorem f_39_150 : decode (mB 39) 150 = .ok (.iconst 4, 1) := by decide +kernel
theorem f_39_151 : decode (mB 39) 151 = .ok (.if_icmp .ne 7, 3) := by decide +kernel
theorem f_39_154 : decode (mB 39) 154 = .ok (.iconst 1, 1) := by decide +kernel
theorem f_39_155 : decode (mB 39) 155 = .ok (.goto 4, 3) := by decide +kernel
theorem f_39_158 : decode (mB 39) 158 = .ok (.iconst 0, 1) := by decide +kernel
theorem f_39_159 : decode (mB 39) 159 = .ok (.istore 8, 2) := by decide +kernel
theorem f_39_161 : decode (mB 39) 161 = .ok (.iload 8, 2) := by decide +kernel
theorem f_39_163 : decode (mB 39) 163 = .ok (.ifCond .eq 40, 3) := by decide +kernel
theorem f_39_166 : decode (mB 39) 166 = .ok (.aload_n 0, 1) := by decide +kernel
theorem f_39_167 : decode (mB 39) 167 = .ok (.getfield 10, 3) := by decide +kernel
theorem f_39_170 : decode (mB 39) 170 = .ok (.iload 5, 2) := by decide +kernel
theorem f_39_172 : decode (mB 39) 172 = .ok (.invokevirtual 159, 3) := by decide +kernel
theorem f_39_175 : decode (mB 39) 175 = .ok (.ifCond .eq 21, 3) := by decide +kernel
theorem f_39_178 : decode (mB 39) 178 = .ok (.aload_n 0, 1) := by decide +kernel
theorem f_39_179 : decode (mB 39) 179 = .ok (.getfield 10, 3) := by decide +kernel
theorem f_39_182 : decode (mB 39) 182 = .ok (.getfield 150, 3) := by decide +kernel
theorem f_39_185 : decode (mB 39) 185 = .ok (.iload 5, 2) := by decide +kernel
theorem f_39_187 : decode (mB 39) 187 = .ok (.aaload, 1) := by decide +kernel
theorem f_39_188 : decode (mB 39) 188 = .ok (.getfield 168, 3) := by decide +kernel
theorem f_39_191 : decode (mB 39) 191 = .ok (.iload 6, 2) := by decide +kernel
theorem f_39_193 : decode (mB 39) 193 = .ok (.if_icmp .eq 10, 3) := by decide +kernel
theorem f_39_196 : decode (mB 39) 196 = .ok (.aload_n 0, 1) := by decide +kernel
theorem f_39_197 : decode (mB 39) 197 = .ok (.ldc 184, 2) := by decide +kernel
theorem f_39_199 : decode (mB 39) 199 = .ok (.invokevirtual 84, 3) := by decide +kernel
theorem f_39_202 : decode (mB 39) 202 = .ok (.ireturn, 1) := by decide +kernel
theorem f_39_203 : decode (mB 39) 203 = .ok (.iload_n 1, 1) := by decide +kernel
theorem f_39_204 : decode (mB 39) 204 = .ok (.bipush 6, 2) := by decide +kernel
theorem f_39_206 : decode (mB 39) 206 = .ok (.if_icmp .ne 26, 3) := by decide +kernel
theorem f_39_209 : decode (mB 39) 209 = .ok (.aload_n 0, 1) := by decide +kernel
theorem f_39_210 : decode (mB 39) 210 = .ok (.getfield 10, 3) := by decide +kernel
theorem f_39_213 : decode (mB 39) 213 = .ok (.getfield 92, 3) := by decide +kernel
theorem f_39_216 : decode (mB 39) 216 = .ok (.iload 6, 2) := by decide +kernel
theorem f_39_218 : decode (mB 39) 218 = .ok (.aaload, 1) := by decide +kernel
theorem f_39_219 : decode (mB 39) 219 = .ok (.invokevirtual 185, 3) := by decide +kernel
theorem f_39_222 : decode (mB 39) 222 = .ok (.ifCond .ne 10, 3) := by decide +kernel
theorem f_39_225 : decode (mB 39) 225 = .ok (.aload_n 0, 1) := by decide +kernel
theorem f_39_226 : decode (mB 39) 226 = .ok (.ldc 119, 2) := by decide +kernel
theorem f_39_228 : decode (mB 39) 228 = .ok (.invokevirtual 84, 3) := by decide +kernel
theorem f_39_231 : decode (mB 39) 231 = .ok (.ireturn, 1) := by decide +kernel
theorem f_39_232 : decode (mB 39) 232 = .ok (.aload_n 0, 1) := by decide +kernel
theorem f_39_233 : decode (mB 39) 233 = .ok (.getfield 10, 3) := by decide +kernel
theorem f_39_236 : decode (mB 39) 236 = .ok (.getfield 188, 3) := by decide +kernel
theorem f_39_239 : decode (mB 39) 239 = .ok (.bipush 20, 2) := by decide +kernel
theorem f_39_241 : decode (mB 39) 241 = .ok (.if_icmp .lt 10, 3) := by decide +kernel
theorem f_39_244 : decode (mB 39) 244 = .ok (.aload_n 0, 1) := by decide +kernel
theorem f_39_245 : decode (mB 39) 245 = .ok (.ldc 91, 2) := by decide +kernel
theorem f_39_247 : decode (mB 39) 247 = .ok (.invokevirtual 84, 3) := by decide +kernel
theorem f_39_250 : decode (mB 39) 250 = .ok (.ireturn, 1) := by decide +kernel
theorem f_39_251 : decode (mB 39) 251 = .ok (.aload_n 0, 1) := by decide +kernel
theorem f_39_252 : decode (mB 39) 252 = .ok (.getfield 10, 3) := by decide +kernel
theorem f_39_255 : decode (mB 39) 255 = .ok (.invokevirtual 191, 3) := by decide +kernel
theorem f_39_258 : decode (mB 39) 258 = .ok (.iload_n 1, 1) := by decide +kernel
theorem f_39_259 : decode (mB 39) 259 = .ok (.iload 6, 2) := by decide +kernel
theorem f_39_261 : decode (mB 39) 261 = .ok (.iload 7, 2) := by decide +kernel
theorem f_39_263 : decode (mB 39) 263 = .ok (.iload_n 3, 1) := by decide +kernel
theorem f_39_264 : decode (mB 39) 264 = .ok (.aload_n 0, 1) := by decide +kernel
theorem f_39_265 : decode (mB 39) 265 = .ok (.getfield 10, 3) := by decide +kernel
theorem f_39_268 : decode (mB 39) 268 = .ok (.getfield 66, 3) := by decide +kernel
theorem f_39_271 : decode (mB 39) 271 = .ok (.iload 4, 2) := by decide +kernel
theorem f_39_273 : decode (mB 39) 273 = .ok (.invokevirtual 195, 3) := by decide +kernel
theorem f_39_276 : decode (mB 39) 276 = .ok (.aload_n 0, 1) := by decide +kernel
theorem f_39_277 : decode (mB 39) 277 = .ok (.getfield 10, 3) := by decide +kernel
theorem f_39_280 : decode (mB 39) 280 = .ok (.iload 8, 2) := by decide +kernel
theorem f_39_282 : decode (mB 39) 282 = .ok (.ifCond .eq 8, 3) := by decide +kernel
theorem f_39_285 : decode (mB 39) 285 = .ok (.iload 5, 2) := by decide +kernel
theorem f_39_287 : decode (mB 39) 287 = .ok (.goto 4, 3) := by decide +kernel
theorem f_39_290 : decode (mB 39) 290 = .ok (.iconst (-1), 1) := by decide +kernel
theorem f_39_291 : decode (mB 39) 291 = .ok (.invokevirtual 200, 3) := by decide +kernel
theorem f_39_294 : decode (mB 39) 294 = .ok (.ireturn, 1) := by decide +kernel
theorem f_40_0 : decode (mB 40) 0 = .ok (.aload_n 0, 1) := by decide +kernel
theorem f_40_1 : decode (mB 40) 1 = .ok (.getfield 28, 3) := by decide +kernel
theorem f_40_4 : decode (mB 40) 4 = .ok (.ifCond .ge 7, 3) := by decide +kernel
theorem f_40_7 : decode (mB 40) 7 = .ok (.iconst 1, 1) := by decide +kernel
theorem f_40_8 : decode (mB 40) 8 = .ok (.goto 4, 3) := by decide +kernel
theorem f_40_11 : decode (mB 40) 11 = .ok (.iconst 0, 1) := by decide +kernel
theorem f_40_12 : decode (mB 40) 12 = .ok (.ireturn, 1) := by decide +kernel
theorem f_41_0 : decode (mB 41) 0 = .ok (.aload_n 0, 1) := by decide +kernel
theorem f_41_1 : decode (mB 41) 1 = .ok (.getfield 25, 3) := by decide +kernel
theorem f_41_4 : decode (mB 41) 4 = .ok (.aload_n 0, 1) := by decide +kernel
theorem f_41_5 : decode (mB 41) 5 = .ok (.getfield 55, 3) := by decide +kernel
theorem f_41_8 : decode (mB 41) 8 = .ok (.bipush 19, 2) := by decide +kernel
theorem f_41_10 : decode (mB 41) 10 = .ok (.invokestatic 134, 3) := by decide +kernel
theorem f_41_13 : decode (mB 41) 13 = .ok (.aaload, 1) := by decide +kernel
theorem f_41_14 : decode (mB 41) 14 = .ok (.areturn, 1) := by decide +kernel
theorem f_42_0 : decode (mB 42) 0 = .ok (.aload_n 0, 1) := by decide +kernel
theorem f_42_1 : decode (mB 42) 1 = .ok (.iload_n 1, 1) := by decide +kernel
theorem f_42_2 : decode (mB 42) 2 = .ok (.putfield 9, 3) := by decide +kernel
theorem f_42_5 : decode (mB 42) 5 = .ok (.aload_n 0, 1) := by decide +kernel
theorem f_42_6 : decode (mB 42) 6 = .ok (.iload_n 2, 1) := by decide +kernel
theorem f_42_7 : decode (mB 42) 7 = .ok (.putfield 15, 3) := by decide +kernel
theorem f_42_10 : decode (mB 42) 10 = .ok (.aload_n 0, 1) := by decide +kernel
theorem f_42_11 : decode (mB 42) 11 = .ok (.iload_n 3, 1) := by decide +kernel
theorem f_42_12 : decode (mB 42) 12 = .ok (.putfield 18, 3) := by decide +kernel
theorem f_42_15 : decode (mB 42) 15 = .ok (.aload_n 0, 1) := by decide +kernel
theorem f_42_16 : decode (mB 42) 16 = .ok (.iload 4, 2) := by decide +kernel
theorem f_42_18 : decode (mB 42) 18 = .ok (.putfield 21, 3) := by decide +kernel
theorem f_42_21 : decode (mB 42) 21 = .ok (.aload_n 0, 1) := by decide +kernel
theorem f_42_22 : decode (mB 42) 22 = .ok (.iconst 0, 1) := by decide +kernel
theorem f_42_23 : decode (mB 42) 23 = .ok (.putfield 24, 3) := by decide +kernel
theorem f_42_26 : decode (mB 42) 26 = .ok (.aload_n 0, 1) := by decide +kernel
theorem f_42_27 : decode (mB 42) 27 = .ok (.iload 5, 2) := by decide +kernel
theorem f_42_29 : decode (mB 42) 29 = .ok (.putfield 27, 3) := by decide +kernel
theorem f_42_32 : decode (mB 42) 32 = .ok (.aload_n 0, 1) := by decide +kernel
theorem f_42_33 : decode (mB 42) 33 = .ok (.iload 6, 2) := by decide +kernel
theorem f_42_35 : decode (mB 42) 35 = .ok (.putfield 30, 3) := by decide +kernel
theorem f_42_38 : decode (mB 42) 38 = .ok (.aload_n 0, 1) := by decide +kernel
theorem f_42_39 : decode (mB 42) 39 = .ok (.iconst (-1), 1) := by decide +kernel
theorem f_42_40 : decode (mB 42) 40 = .ok (.putfield 33, 3) := by decide +kernel
theorem f_42_43 : decode (mB 42) 43 = .ok (.aload_n 0, 1) := by decide +kernel
theorem f_42_44 : decode (mB 42) 44 = .ok (.iconst 2, 1) := by decide +kernel
theorem f_42_45 : decode (mB 42) 45 = .ok (.putfield 36, 3) := by decide +kernel
theorem f_42_48 : decode (mB 42) 48 = .ok (.aload_n 0, 1) := by decide +kernel
theorem f_42_49 : decode (mB 42) 49 = .ok (.iconst 0, 1) := by decide +kernel
theorem f_42_50 : decode (mB 42) 50 = .ok (.putfield 39, 3) := by decide +kernel
theorem f_42_53 : decode (mB 42) 53 = .ok (.return_, 1) := by decide +kernel
theorem f_43_0 : decode (mB 43) 0 = .ok (.aload_n 0, 1) := by decide +kernel
theorem f_43_1 : decode (mB 43) 1 = .ok (.invokevirtual 139, 3) := by decide +kernel
theorem f_43_4 : decode (mB 43) 4 = .ok (.astore_n 2, 1) := by decide +kernel
theorem f_43_5 : decode (mB 43) 5 = .ok (.aload_n 2, 1) := by decide +kernel
theorem f_43_6 : decode (mB 43) 6 = .ok (.iload_n 1, 1) := by decide +kernel
theorem f_43_7 : decode (mB 43) 7 = .ok (.putfield 143, 3) := by decide +kernel
theorem f_43_10 : decode (mB 43) 10 = .ok (.aload_n 2, 1) := by decide +kernel
theorem f_43_11 : decode (mB 43) 11 = .ok (.invokevirtual 146, 3) := by decide +kernel
theorem f_43_14 : decode (mB 43) 14 = .ok (.ifCond .eq 24, 3) := by decide +kernel
theorem f_43_17 : decode (mB 43) 17 = .ok (.aload_n 0, 1) := by decide +kernel
theorem f_43_18 : decode (mB 43) 18 = .ok (.iload_n 1, 1) := by decide +kernel
theorem f_43_19 : decode (mB 43) 19 = .ok (.invokevirtual 149, 3) := by decide +kernel
theorem f_43_22 : decode (mB 43) 22 = .ok (.ifCond .eq 16, 3) := by decide +kernel
theorem f_43_25 : decode (mB 43) 25 = .ok (.aload_n 0, 1) := by decide +kernel
theorem f_43_26 : decode (mB 43) 26 = .ok (.getfield 19, 3) := by decide +kernel
theorem f_43_29 : decode (mB 43) 29 = .ok (.iload_n 1, 1) := by decide +kernel
theorem f_43_30 : decode (mB 43) 30 = .ok (.aaload, 1) := by decide +kernel
theorem f_43_31 : decode (mB 43) 31 = .ok (.aload_n 2, 1) := by decide +kernel
theorem f_43_32 : decode (mB 43) 32 = .ok (.getfield 152, 3) := by decide +kernel
theorem f_43_35 : decode (mB 43) 35 = .ok (.putfield 155, 3) := by decide +kernel
theorem f_43_38 : decode (mB 43) 38 = .ok (.aload_n 2, 1) := by decide +kernel
theorem f_43_39 : decode (mB 43) 39 = .ok (.getfield 158, 3) := by decide +kernel
theorem f_43_42 : decode (mB 43) 42 = .ok (.bipush 6, 2) := by decide +kernel
theorem f_43_44 : decode (mB 43) 44 = .ok (.if_icmp .ne 19, 3) := by decide +kernel
theorem f_43_47 : decode (mB 43) 47 = .ok (.aload_n 0, 1) := by decide +kernel
theorem f_43_48 : decode (mB 43) 48 = .ok (.getfield 11, 3) := by decide +kernel
theorem f_43_51 : decode (mB 43) 51 = .ok (.aload_n 2, 1) := by decide +kernel
theorem f_43_52 : decode (mB 43) 52 = .ok (.getfield 161, 3) := by decide +kernel
theorem f_43_55 : decode (mB 43) 55 = .ok (.aaload, 1) := by decide +kernel
theorem f_43_56 : decode (mB 43) 56 = .ok (.aload_n 2, 1) := by decide +kernel
theorem f_43_57 : decode (mB 43) 57 = .ok (.getfield 152, 3) := by decide +kernel
theorem f_43_60 : decode (mB 43) 60 = .ok (.putfield 164, 3) := by decide +kernel
theorem f_43_63 : decode (mB 43) 63 = .ok (.aload_n 0, 1) := by decide +kernel
theorem f_43_64 : decode (mB 43) 64 = .ok (.dup, 1) := by decide +kernel
theorem f_43_65 : decode (mB 43) 65 = .ok (.getfield 55, 3) := by decide +kernel
theorem f_43_68 : decode (mB 43) 68 = .ok (.dup_x1, 1) := by decide +kernel
theorem f_43_69 : decode (mB 43) 69 = .ok (.iconst 1, 1) := by decide +kernel
theorem f_43_70 : decode (mB 43) 70 = .ok (.iadd, 1) := by decide +kernel
theorem f_43_71 : decode (mB 43) 71 = .ok (.putfield 55, 3) := by decide +kernel
theorem f_43_74 : decode (mB 43) 74 = .ok (.ireturn, 1) := by decide +kernel
theorem f_44_0 : decode (mB 44) 0 = .ok (.aload_n 0, 1) := by decide +kernel
theorem f_44_1 : decode (mB 44) 1 = .ok (.getfield 9, 3) := by decide +kernel
theorem f_44_4 : decode (mB 44) 4 = .ok (.iconst 3, 1) := by decide +kernel
theorem f_44_5 : decode (mB 44) 5 = .ok (.invokestatic 50, 3) := by decide +kernel
theorem f_44_8 : decode (mB 44) 8 = .ok (.ireturn, 1) := by decide +kernel
theorem f_45_0 : decode (mB 45) 0 = .ok (.iload_n 0, 1) := by decide +kernel
theorem f_45_1 : decode (mB 45) 1 = .ok (.istore_n 2, 1) := by decide +kernel
theorem f_45_2 : decode (mB 45) 2 = .ok (.iconst 0, 1) := by decide +kernel
theorem f_45_3 : decode (mB 45) 3 = .ok (.istore_n 3, 1) := by decide +kernel
theorem f_45_4 : decode (mB 45) 4 = .ok (.iload_n 3, 1) := by decide +kernel
theorem f_45_5 : decode (mB 45) 5 = .ok (.bipush 7, 2) := by decide +kernel
theorem f_45_7 : decode (mB 45) 7 = .ok (.if_icmp .ge 32, 3) := by decide +kernel
theorem f_45_10 : decode (mB 45) 10 = .ok (.iload_n 2, 1) := by decide +kernel
theorem f_45_11 : decode (mB 45) 11 = .ok (.iconst 0, 1) := by decide +kernel
theorem f_45_12 : decode (mB 45) 12 = .ok (.bipush 6, 2) := by decide +kernel
theorem f_45_14 : decode (mB 45) 14 = .ok (.invokestatic 75, 3) := by decide +kernel
theorem f_45_17 : decode (mB 45) 17 = .ok (.ifCond .eq 22, 3) := by decide +kernel
theorem f_45_20 : decode (mB 45) 20 = .ok (.iload_n 2, 1) := by decide +kernel
theorem f_45_21 : decode (mB 45) 21 = .ok (.iload_n 1, 1) := by decide +kernel
theorem f_45_22 : decode (mB 45) 22 = .ok (.if_icmp .ne 5, 3) := by decide +kernel
theorem f_45_25 : decode (mB 45) 25 = .ok (.iconst 1, 1) := by decide +kernel
theorem f_45_26 : decode (mB 45) 26 = .ok (.ireturn, 1) := by decide +kernel
theorem f_45_27 : decode (mB 45) 27 = .ok (.getstatic 390, 3) := by decide +kernel
theorem f_45_30 : decode (mB 45) 30 = .ok (.iload_n 2, 1) := by decide +kernel
theorem f_45_31 : decode (mB 45) 31 = .ok (.iaload, 1) := by decide +kernel
theorem f_45_32 : decode (mB 45) 32 = .ok (.istore_n 2, 1) := by decide +kernel
theorem f_45_33 : decode (mB 45) 33 = .ok (.iinc 3 1, 3) := by decide +kernel
theorem f_45_36 : decode (mB 45) 36 = .ok (.goto (-32), 3) := by decide +kernel
theorem f_45_39 : decode (mB 45) 39 = .ok (.iconst 0, 1) := by decide +kernel
theorem f_45_40 : decode (mB 45) 40 = .ok (.ireturn, 1) := by decide +kernel
theorem f_46_0 : decode (mB 46) 0 = .ok (.aload_n 0, 1) := by decide +kernel
theorem f_46_1 : decode (mB 46) 1 = .ok (.getfield 10, 3) := by decide +kernel
theorem f_46_4 : decode (mB 46) 4 = .ok (.iload_n 1, 1) := by decide +kernel
theorem f_46_5 : decode (mB 46) 5 = .ok (.invokevirtual 203, 3) := by decide +kernel
theorem f_46_8 : decode (mB 46) 8 = .ok (.ifCond .eq 13, 3) := by decide +kernel
theorem f_46_11 : decode (mB 46) 11 = .ok (.iload_n 2, 1) := by decide +kernel
theorem f_46_12 : decode (mB 46) 12 = .ok (.iconst 0, 1) := by decide +kernel
theorem f_46_13 : decode (mB 46) 13 = .ok (.bipush 6, 2) := by decide +kernel
theorem f_46_15 : decode (mB 46) 15 = .ok (.invokestatic 75, 3) := by decide +kernel
theorem f_46_18 : decode (mB 46) 18 = .ok (.ifCond .ne 10, 3) := by decide +kernel
theorem f_46_21 : decode (mB 46) 21 = .ok (.aload_n 0, 1) := by decide +kernel
theorem f_46_22 : decode (mB 46) 22 = .ok (.ldc 83, 2) := by decide +kernel
theorem f_46_24 : decode (mB 46) 24 = .ok (.invokevirtual 84, 3) := by decide +kernel
theorem f_46_27 : decode (mB 46) 27 = .ok (.ireturn, 1) := by decide +kernel
theorem f_46_28 : decode (mB 46) 28 = .ok (.aload_n 0, 1) := by decide +kernel
theorem f_46_29 : decode (mB 46) 29 = .ok (.getfield 10, 3) := by decide +kernel
theorem f_46_32 : decode (mB 46) 32 = .ok (.getfield 206, 3) := by decide +kernel
theorem f_46_35 : decode (mB 46) 35 = .ok (.iload_n 1, 1) := by decide +kernel
theorem f_46_36 : decode (mB 46) 36 = .ok (.aaload, 1) := by decide +kernel
theorem f_46_37 : decode (mB 46) 37 = .ok (.getfield 210, 3) := by decide +kernel
theorem f_46_40 : decode (mB 46) 40 = .ok (.iload_n 2, 1) := by decide +kernel
theorem f_46_41 : decode (mB 46) 41 = .ok (.invokestatic 213, 3) := by decide +kernel
theorem f_46_44 : decode (mB 46) 44 = .ok (.ifCond .eq 7, 3) := by decide +kernel
theorem f_46_47 : decode (mB 46) 47 = .ok (.iload_n 1, 1) := by decide +kernel
theorem f_46_48 : decode (mB 46) 48 = .ok (.goto 9, 3) := by decide +kernel
theorem f_46_51 : decode (mB 46) 51 = .ok (.aload_n 0, 1) := by decide +kernel
theorem f_46_52 : decode (mB 46) 52 = .ok (.ldc 216, 2) := by decide +kernel
theorem f_46_54 : decode (mB 46) 54 = .ok (.invokevirtual 84, 3) := by decide +kernel
theorem f_46_57 : decode (mB 46) 57 = .ok (.ireturn, 1) := by decide +kernel
theorem f_47_0 : decode (mB 47) 0 = .ok (.iload_n 1, 1) := by decide +kernel
theorem f_47_1 : decode (mB 47) 1 = .ok (.iconst 0, 1) := by decide +kernel
theorem f_47_2 : decode (mB 47) 2 = .ok (.aload_n 0, 1) := by decide +kernel
theorem f_47_3 : decode (mB 47) 3 = .ok (.getfield 55, 3) := by decide +kernel
theorem f_47_6 : decode (mB 47) 6 = .ok (.iconst 1, 1) := by decide +kernel
theorem f_47_7 : decode (mB 47) 7 = .ok (.isub, 1) := by decide +kernel
theorem f_47_8 : decode (mB 47) 8 = .ok (.invokestatic 104, 3) := by decide +kernel
theorem f_47_11 : decode (mB 47) 11 = .ok (.ireturn, 1) := by decide +kernel
theorem f_48_0 : decode (mB 48) 0 = .ok (.aload_n 0, 1) := by decide +kernel
theorem f_48_1 : decode (mB 48) 1 = .ok (.getfield 10, 3) := by decide +kernel
theorem f_48_4 : decode (mB 48) 4 = .ok (.iload_n 1, 1) := by decide +kernel
theorem f_48_5 : decode (mB 48) 5 = .ok (.invokevirtual 203, 3) := by decide +kernel
theorem f_48_8 : decode (mB 48) 8 = .ok (.ifCond .eq 12, 3) := by decide +kernel
theorem f_48_11 : decode (mB 48) 11 = .ok (.iload_n 2, 1) := by decide +kernel
theorem f_48_12 : decode (mB 48) 12 = .ok (.iconst 0, 1) := by decide +kernel
theorem f_48_13 : decode (mB 48) 13 = .ok (.iconst 2, 1) := by decide +kernel
theorem f_48_14 : decode (mB 48) 14 = .ok (.invokestatic 75, 3) := by decide +kernel
theorem f_48_17 : decode (mB 48) 17 = .ok (.ifCond .ne 10, 3) := by decide +kernel
theorem f_48_20 : decode (mB 48) 20 = .ok (.aload_n 0, 1) := by decide +kernel
theorem f_48_21 : decode (mB 48) 21 = .ok (.ldc 83, 2) := by decide +kernel
theorem f_48_23 : decode (mB 48) 23 = .ok (.invokevirtual 84, 3) := by decide +kernel
theorem f_48_26 : decode (mB 48) 26 = .ok (.ireturn, 1) := by decide +kernel
theorem f_48_27 : decode (mB 48) 27 = .ok (.aload_n 0, 1) := by decide +kernel
theorem f_48_28 : decode (mB 48) 28 = .ok (.getfield 10, 3) := by decide +kernel
theorem f_48_31 : decode (mB 48) 31 = .ok (.getfield 206, 3) := by decide +kernel
theorem f_48_34 : decode (mB 48) 34 = .ok (.iload_n 1, 1) := by decide +kernel
theorem f_48_35 : decode (mB 48) 35 = .ok (.aaload, 1) := by decide +kernel
theorem f_48_36 : decode (mB 48) 36 = .ok (.getfield 217, 3) := by decide +kernel
theorem f_48_39 : decode (mB 48) 39 = .ok (.istore_n 3, 1) := by decide +kernel
theorem f_48_40 : decode (mB 48) 40 = .ok (.aload_n 0, 1) := by decide +kernel
theorem f_48_41 : decode (mB 48) 41 = .ok (.getfield 10, 3) := by decide +kernel
theorem f_48_44 : decode (mB 48) 44 = .ok (.getfield 206, 3) := by decide +kernel
theorem f_48_47 : decode (mB 48) 47 = .ok (.iload_n 1, 1) := by decide +kernel
theorem f_48_48 : decode (mB 48) 48 = .ok (.aaload, 1) := by decide +kernel
theorem f_48_49 : decode (mB 48) 49 = .ok (.iload_n 2, 1) := by decide +kernel
theorem f_48_50 : decode (mB 48) 50 = .ok (.putfield 217, 3) := by decide +kernel
theorem f_48_53 : decode (mB 48) 53 = .ok (.iload_n 3, 1) := by decide +kernel
theorem f_48_54 : decode (mB 48) 54 = .ok (.ireturn, 1) := by decide +kernel
theorem f_49_0 : decode (mB 49) 0 = .ok (.aload_n 0, 1) := by decide +kernel
theorem f_49_1 : decode (mB 49) 1 = .ok (.getfield 10, 3) := by decide +kernel
theorem f_49_4 : decode (mB 49) 4 = .ok (.iload_n 1, 1) := by decide +kernel
theorem f_49_5 : decode (mB 49) 5 = .ok (.invokevirtual 203, 3) := by decide +kernel
theorem f_49_8 : decode (mB 49) 8 = .ok (.ifCond .eq 14, 3) := by decide +kernel
theorem f_49_11 : decode (mB 49) 11 = .ok (.iload_n 2, 1) := by decide +kernel
theorem f_49_12 : decode (mB 49) 12 = .ok (.iconst 1, 1) := by decide +kernel
theorem f_49_13 : decode (mB 49) 13 = .ok (.sipush 9999, 3) := by decide +kernel
theorem f_49_16 : decode (mB 49) 16 = .ok (.invokestatic 75, 3) := by decide +kernel
theorem f_49_19 : decode (mB 49) 19 = .ok (.ifCond .ne 10, 3) := by decide +kernel
theorem f_49_22 : decode (mB 49) 22 = .ok (.aload_n 0, 1) := by decide +kernel
theorem f_49_23 : decode (mB 49) 23 = .ok (.ldc 83, 2) := by decide +kernel
theorem f_49_25 : decode (mB 49) 25 = .ok (.invokevirtual 84, 3) := by decide +kernel
theorem f_49_28 : decode (mB 49) 28 = .ok (.ireturn, 1) := by decide +kernel
theorem f_49_29 : decode (mB 49) 29 = .ok (.aload_n 0, 1) := by decide +kernel
theorem f_49_30 : decode (mB 49) 30 = .ok (.getfield 10, 3) := by decide +kernel
theorem f_49_33 : decode (mB 49) 33 = .ok (.getfield 206, 3) := by decide +kernel
theorem f_49_36 : decode (mB 49) 36 = .ok (.iload_n 1, 1) := by decide +kernel
theorem f_49_37 : decode (mB 49) 37 = .ok (.aaload, 1) := by decide +kernel
theorem f_49_38 : decode (mB 49) 38 = .ok (.astore_n 3, 1) := by decide +kernel
theorem f_49_39 : decode (mB 49) 39 = .ok (.aload_n 3, 1) := by decide +kernel
theorem f_49_40 : decode (mB 49) 40 = .ok (.getfield 220, 3) := by decide +kernel
theorem f_49_43 : decode (mB 49) 43 = .ok (.ifCond .eq 10, 3) := by decide +kernel
theorem f_49_46 : decode (mB 49) 46 = .ok (.aload_n 0, 1) := by decide +kernel
theorem f_49_47 : decode (mB 49) 47 = .ok (.ldc 182, 2) := by decide +kernel
theorem f_49_49 : decode (mB 49) 49 = .ok (.invokevirtual 84, 3) := by decide +kernel
theorem f_49_52 : decode (mB 49) 52 = .ok (.ireturn, 1) := by decide +kernel
theorem f_49_53 : decode (mB 49) 53 = .ok (.iload_n 2, 1) := by decide +kernel
theorem f_49_54 : decode (mB 49) 54 = .ok (.aload_n 3, 1) := by decide +kernel
theorem f_49_55 : decode (mB 49) 55 = .ok (.invokevirtual 223, 3) := by decide +kernel
theorem f_49_58 : decode (mB 49) 58 = .ok (.if_icmp .le 10, 3) := by decide +kernel
theorem f_49_61 : decode (mB 49) 61 = .ok (.aload_n 0, 1) := by decide +kernel
theorem f_49_62 : decode (mB 49) 62 = .ok (.ldc 183, 2) := by decide +kernel
theorem f_49_64 : decode (mB 49) 64 = .ok (.invokevirtual 84, 3) := by decide +kernel
theorem f_49_67 : decode (mB 49) 67 = .ok (.ireturn, 1) := by decide +kernel
theorem f_49_68 : decode (mB 49) 68 = .ok (.iload_n 2, 1) := by decide +kernel
theorem f_49_69 : decode (mB 49) 69 = .ok (.aload_n 0, 1) := by decide +kernel
theorem f_49_70 : decode (mB 49) 70 = .ok (.getfield 10, 3) := by decide +kernel
theorem f_49_73 : decode (mB 49) 73 = .ok (.getfield 92, 3) := by decide +kernel
theorem f_49_76 : decode (mB 49) 76 = .ok (.aload_n 3, 1) := by decide +kernel
theorem f_49_77 : decode (mB 49) 77 = .ok (.getfield 227, 3) := by decide +kernel
theorem f_49_80 : decode (mB 49) 80 = .ok (.aaload, 1) := by decide +kernel
theorem f_49_81 : decode (mB 49) 81 = .ok (.getfield 120, 3) := by decide +kernel
theorem f_49_84 : decode (mB 49) 84 = .ok (.if_icmp .le 10, 3) := by decide +kernel
theorem f_49_87 : decode (mB 49) 87 = .ok (.aload_n 0, 1) := by decide +kernel
theorem f_49_88 : decode (mB 49) 88 = .ok (.ldc 184, 2) := by decide +kernel
theorem f_49_90 : decode (mB 49) 90 = .ok (.invokevirtual 84, 3) := by decide +kernel
theorem f_49_93 : decode (mB 49) 93 = .ok (.ireturn, 1) := by decide +kernel
theorem f_49_94 : decode (mB 49) 94 = .ok (.aload_n 0, 1) := by decide +kernel
theorem f_49_95 : decode (mB 49) 95 = .ok (.getfield 10, 3) := by decide +kernel
theorem f_49_98 : decode (mB 49) 98 = .ok (.aload_n 3, 1) := by decide +kernel
theorem f_49_99 : decode (mB 49) 99 = .ok (.iload_n 2, 1) := by decide +kernel
theorem f_49_100 : decode (mB 49) 100 = .ok (.invokevirtual 230, 3) := by decide +kernel
theorem f_49_103 : decode (mB 49) 103 = .ok (.aload_n 3, 1) := by decide +kernel
theorem f_49_104 : decode (mB 49) 104 = .ok (.invokevirtual 223, 3) := by decide +kernel
theorem f_49_107 : decode (mB 49) 107 = .ok (.ireturn, 1) := by decide +kernel
theorem f_50_0 : decode (mB 50) 0 = .ok (.aload_n 0, 1) := by decide +kernel
theorem f_50_1 : decode (mB 50) 1 = .ok (.getfield 11, 3) := by decide +kernel
theorem f_50_4 : decode (mB 50) 4 = .ok (.aload_n 1, 1) := by decide +kernel
theorem f_50_5 : decode (mB 50) 5 = .ok (.getfield 161, 3) := by decide +kernel
theorem f_50_8 : decode (mB 50) 8 = .ok (.aaload, 1) := by decide +kernel
theorem f_50_9 : decode (mB 50) 9 = .ok (.dup, 1) := by decide +kernel
theorem f_50_10 : decode (mB 50) 10 = .ok (.getfield 131, 3) := by decide +kernel
theorem f_50_13 : decode (mB 50) 13 = .ok (.iload_n 2, 1) := by decide +kernel
theorem f_50_14 : decode (mB 50) 14 = .ok (.isub, 1) := by decide +kernel
theorem f_50_15 : decode (mB 50) 15 = .ok (.putfield 131, 3) := by decide +kernel
theorem f_50_18 : decode (mB 50) 18 = .ok (.aload_n 0, 1) := by decide +kernel
theorem f_50_19 : decode (mB 50) 19 = .ok (.aload_n 1, 1) := by decide +kernel
theorem f_50_20 : decode (mB 50) 20 = .ok (.getfield 152, 3) := by decide +kernel
theorem f_50_23 : decode (mB 50) 23 = .ok (.iload_n 2, 1) := by decide +kernel
theorem f_50_24 : decode (mB 50) 24 = .ok (.invokevirtual 170, 3) := by decide +kernel
theorem f_50_27 : decode (mB 50) 27 = .ok (.aload_n 1, 1) := by decide +kernel
theorem f_50_28 : decode (mB 50) 28 = .ok (.dup, 1) := by decide +kernel
theorem f_50_29 : decode (mB 50) 29 = .ok (.getfield 174, 3) := by decide +kernel
theorem f_50_32 : decode (mB 50) 32 = .ok (.iload_n 2, 1) := by decide +kernel
theorem f_50_33 : decode (mB 50) 33 = .ok (.iadd, 1) := by decide +kernel
theorem f_50_34 : decode (mB 50) 34 = .ok (.putfield 174, 3) := by decide +kernel
theorem f_50_37 : decode (mB 50) 37 = .ok (.aload_n 1, 1) := by decide +kernel
theorem f_50_38 : decode (mB 50) 38 = .ok (.invokevirtual 177, 3) := by decide +kernel
theorem f_50_41 : decode (mB 50) 41 = .ok (.ifCond .le 4, 3) := by decide +kernel
theorem f_50_44 : decode (mB 50) 44 = .ok (.return_, 1) := by decide +kernel
theorem f_50_45 : decode (mB 50) 45 = .ok (.aload_n 0, 1) := by decide +kernel
theorem f_50_46 : decode (mB 50) 46 = .ok (.aload_n 1, 1) := by decide +kernel
theorem f_50_47 : decode (mB 50) 47 = .ok (.iconst 1, 1) := by decide +kernel
theorem f_50_48 : decode (mB 50) 48 = .ok (.invokevirtual 181, 3) := by decide +kernel
theorem f_50_51 : decode (mB 50) 51 = .ok (.aload_n 1, 1) := by decide +kernel
theorem f_50_52 : decode (mB 50) 52 = .ok (.invokevirtual 146, 3) := by decide +kernel
theorem f_50_55 : decode (mB 50) 55 = .ok (.ifCond .eq 49, 3) := by decide +kernel
theorem f_50_58 : decode (mB 50) 58 = .ok (.aload_n 0, 1) := by decide +kernel
theorem f_50_59 : decode (mB 50) 59 = .ok (.aload_n 1, 1) := by decide +kernel
theorem f_50_60 : decode (mB 50) 60 = .ok (.getfield 143, 3) := by decide +kernel
theorem f_50_63 : decode (mB 50) 63 = .ok (.invokevirtual 149, 3) := by decide +kernel
theorem f_50_66 : decode (mB 50) 66 = .ok (.ifCond .eq 38, 3) := by decide +kernel
theorem f_50_69 : decode (mB 50) 69 = .ok (.aload_n 0, 1) := by decide +kernel
theorem f_50_70 : decode (mB 50) 70 = .ok (.getfield 19, 3) := by decide +kernel
theorem f_50_73 : decode (mB 50) 73 = .ok (.aload_n 1, 1) := by decide +kernel
theorem f_50_74 : decode (mB 50) 74 = .ok (.getfield 143, 3) := by decide +kernel
theorem f_50_77 : decode (mB 50) 77 = .ok (.aaload, 1) := by decide +kernel
theorem f_50_78 : decode (mB 50) 78 = .ok (.getfield 155, 3) := by decide +kernel
theorem f_50_81 : decode (mB 50) 81 = .ok (.aload_n 1, 1) := by decide +kernel
theorem f_50_82 : decode (mB 50) 82 = .ok (.getfield 152, 3) := by decide +kernel
theorem f_50_85 : decode (mB 50) 85 = .ok (.if_icmp .ne 19, 3) := by decide +kernel
theorem f_50_88 : decode (mB 50) 88 = .ok (.aload_n 0, 1) := by decide +kernel
theorem f_50_89 : decode (mB 50) 89 = .ok (.getfield 19, 3) := by decide +kernel
theorem f_50_92 : decode (mB 50) 92 = .ok (.aload_n 1, 1) := by decide +kernel
theorem f_50_93 : decode (mB 50) 93 = .ok (.getfield 143, 3) := by decide +kernel
theorem f_50_96 : decode (mB 50) 96 = .ok (.aaload, 1) := by decide +kernel
theorem f_50_97 : decode (mB 50) 97 = .ok (.aload_n 1, 1) := by decide +kernel
theorem f_50_98 : decode (mB 50) 98 = .ok (.getfield 161, 3) := by decide +kernel
theorem f_50_101 : decode (mB 50) 101 = .ok (.putfield 155, 3) := by decide +kernel
theorem f_50_104 : decode (mB 50) 104 = .ok (.return_, 1) := by decide +kernel
theorem f_51_0 : decode (mB 51) 0 = .ok (.aload_n 0, 1) := by decide +kernel
theorem f_51_1 : decode (mB 51) 1 = .ok (.getfield 11, 3) := by decide +kernel
theorem f_51_4 : decode (mB 51) 4 = .ok (.iload_n 1, 1) := by decide +kernel
theorem f_51_5 : decode (mB 51) 5 = .ok (.aaload, 1) := by decide +kernel
theorem f_51_6 : decode (mB 51) 6 = .ok (.astore_n 3, 1) := by decide +kernel
theorem f_51_7 : decode (mB 51) 7 = .ok (.aload_n 3, 1) := by decide +kernel
theorem f_51_8 : decode (mB 51) 8 = .ok (.invokevirtual 116, 3) := by decide +kernel
theorem f_51_11 : decode (mB 51) 11 = .ok (.ifCond .eq 7, 3) := by decide +kernel
theorem f_51_14 : decode (mB 51) 14 = .ok (.iconst 0, 1) := by decide +kernel
theorem f_51_15 : decode (mB 51) 15 = .ok (.goto 11, 3) := by decide +kernel
theorem f_51_18 : decode (mB 51) 18 = .ok (.sipush 9999, 3) := by decide +kernel
theorem f_51_21 : decode (mB 51) 21 = .ok (.aload_n 3, 1) := by decide +kernel
theorem f_51_22 : decode (mB 51) 22 = .ok (.getfield 131, 3) := by decide +kernel
theorem f_51_25 : decode (mB 51) 25 = .ok (.isub, 1) := by decide +kernel
theorem f_51_26 : decode (mB 51) 26 = .ok (.istore 4, 2) := by decide +kernel
theorem f_51_28 : decode (mB 51) 28 = .ok (.iload 4, 2) := by decide +kernel
theorem f_51_30 : decode (mB 51) 30 = .ok (.iload_n 2, 1) := by decide +kernel
theorem f_51_31 : decode (mB 51) 31 = .ok (.invokestatic 134, 3) := by decide +kernel
theorem f_51_34 : decode (mB 51) 34 = .ok (.istore 5, 2) := by decide +kernel
theorem f_51_36 : decode (mB 51) 36 = .ok (.aload_n 3, 1) := by decide +kernel
theorem f_51_37 : decode (mB 51) 37 = .ok (.dup, 1) := by decide +kernel
theorem f_51_38 : decode (mB 51) 38 = .ok (.getfield 131, 3) := by decide +kernel
theorem f_51_41 : decode (mB 51) 41 = .ok (.iload 5, 2) := by decide +kernel
theorem f_51_43 : decode (mB 51) 43 = .ok (.iadd, 1) := by decide +kernel
theorem f_51_44 : decode (mB 51) 44 = .ok (.putfield 131, 3) := by decide +kernel
theorem f_51_47 : decode (mB 51) 47 = .ok (.aload_n 0, 1) := by decide +kernel
theorem f_51_48 : decode (mB 51) 48 = .ok (.dup, 1) := by decide +kernel
theorem f_51_49 : decode (mB 51) 49 = .ok (.getfield 67, 3) := by decide +kernel
theorem f_51_52 : decode (mB 51) 52 = .ok (.iload_n 2, 1) := by decide +kernel
theorem f_51_53 : decode (mB 51) 53 = .ok (.iload 5, 2) := by decide +kernel
theorem f_51_55 : decode (mB 51) 55 = .ok (.isub, 1) := by decide +kernel
theorem f_51_56 : decode (mB 51) 56 = .ok (.iadd, 1) := by decide +kernel
theorem f_51_57 : decode (mB 51) 57 = .ok (.putfield 67, 3) := by decide +kernel
theorem f_51_60 : decode (mB 51) 60 = .ok (.return_, 1) := by decide +kernel
theorem f_52_0 : decode (mB 52) 0 = .ok (.aload_n 1, 1) := by decide +kernel
theorem f_52_1 : decode (mB 52) 1 = .ok (.iload_n 2, 1) := by decide +kernel
theorem f_52_2 : decode (mB 52) 2 = .ok (.putfield 167, 3) := by decide +kernel
theorem f_52_5 : decode (mB 52) 5 = .ok (.aload_n 1, 1) := by decide +kernel
theorem f_52_6 : decode (mB 52) 6 = .ok (.getfield 158, 3) := by decide +kernel
theorem f_52_9 : decode (mB 52) 9 = .ok (.bipush 6, 2) := by decide +kernel
theorem f_52_11 : decode (mB 52) 11 = .ok (.if_icmp .ne 16, 3) := by decide +kernel
theorem f_52_14 : decode (mB 52) 14 = .ok (.aload_n 0, 1) := by decide +kernel
theorem f_52_15 : decode (mB 52) 15 = .ok (.getfield 11, 3) := by decide +kernel
theorem f_52_18 : decode (mB 52) 18 = .ok (.aload_n 1, 1) := by decide +kernel
theorem f_52_19 : decode (mB 52) 19 = .ok (.getfield 161, 3) := by decide +kernel
theorem f_52_22 : decode (mB 52) 22 = .ok (.aaload, 1) := by decide +kernel
theorem f_52_23 : decode (mB 52) 23 = .ok (.iconst (-1), 1) := by decide +kernel
theorem f_52_24 : decode (mB 52) 24 = .ok (.putfield 164, 3) := by decide +kernel
theorem f_52_27 : decode (mB 52) 27 = .ok (.return_, 1) := by decide +kernel
theorem f_53_0 : decode (mB 53) 0 = .ok (.aload_n 0, 1) := by decide +kernel
theorem f_53_1 : decode (mB 53) 1 = .ok (.getfield 10, 3) := by decide +kernel
theorem f_53_4 : decode (mB 53) 4 = .ok (.iload_n 1, 1) := by decide +kernel
theorem f_53_5 : decode (mB 53) 5 = .ok (.invokevirtual 203, 3) := by decide +kernel
theorem f_53_8 : decode (mB 53) 8 = .ok (.ifCond .ne 10, 3) := by decide +kernel
theorem f_53_11 : decode (mB 53) 11 = .ok (.aload_n 0, 1) := by decide +kernel
theorem f_53_12 : decode (mB 53) 12 = .ok (.ldc 83, 2) := by decide +kernel
theorem f_53_14 : decode (mB 53) 14 = .ok (.invokevirtual 84, 3) := by decide +kernel
theorem f_53_17 : decode (mB 53) 17 = .ok (.ireturn, 1) := by decide +kernel
theorem f_53_18 : decode (mB 53) 18 = .ok (.aload_n 0, 1) := by decide +kernel
theorem f_53_19 : decode (mB 53) 19 = .ok (.getfield 10, 3) := by decide +kernel
theorem f_53_22 : decode (mB 53) 22 = .ok (.getfield 206, 3) := by decide +kernel
theorem f_53_25 : decode (mB 53) 25 = .ok (.iload_n 1, 1) := by decide +kernel
theorem f_53_26 : decode (mB 53) 26 = .ok (.aaload, 1) := by decide +kernel
theorem f_53_27 : decode (mB 53) 27 = .ok (.astore_n 2, 1) := by decide +kernel
theorem f_53_28 : decode (mB 53) 28 = .ok (.aload_n 2, 1) := by decide +kernel
theorem f_53_29 : decode (mB 53) 29 = .ok (.getfield 220, 3) := by decide +kernel
theorem f_53_32 : decode (mB 53) 32 = .ok (.ifCond .eq 10, 3) := by decide +kernel
theorem f_53_35 : decode (mB 53) 35 = .ok (.aload_n 0, 1) := by decide +kernel
theorem f_53_36 : decode (mB 53) 36 = .ok (.ldc 182, 2) := by decide +kernel
theorem f_53_38 : decode (mB 53) 38 = .ok (.invokevirtual 84, 3) := by decide +kernel
theorem f_53_41 : decode (mB 53) 41 = .ok (.ireturn, 1) := by decide +kernel
theorem f_53_42 : decode (mB 53) 42 = .ok (.aload_n 0, 1) := by decide +kernel
theorem f_53_43 : decode (mB 53) 43 = .ok (.getfield 10, 3) := by decide +kernel
theorem f_53_46 : decode (mB 53) 46 = .ok (.aload_n 2, 1) := by decide +kernel
theorem f_53_47 : decode (mB 53) 47 = .ok (.iconst 3, 1) := by decide +kernel
theorem f_53_48 : decode (mB 53) 48 = .ok (.invokevirtual 234, 3) := by decide +kernel
theorem f_53_51 : decode (mB 53) 51 = .ok (.aload_n 2, 1) := by decide +kernel
theorem f_53_52 : decode (mB 53) 52 = .ok (.invokevirtual 223, 3) := by decide +kernel
theorem f_53_55 : decode (mB 53) 55 = .ok (.ireturn, 1) := by decide +kernel
theorem f_54_0 : decode (mB 54) 0 = .ok (.aload_n 0, 1) := by decide +kernel
theorem f_54_1 : decode (mB 54) 1 = .ok (.getfield 10, 3) := by decide +kernel
theorem f_54_4 : decode (mB 54) 4 = .ok (.iload_n 1, 1) := by decide +kernel
theorem f_54_5 : decode (mB 54) 5 = .ok (.invokevirtual 203, 3) := by decide +kernel
theorem f_54_8 : decode (mB 54) 8 = .ok (.ifCond .ne 10, 3) := by decide +kernel
theorem f_54_11 : decode (mB 54) 11 = .ok (.aload_n 0, 1) := by decide +kernel
theorem f_54_12 : decode (mB 54) 12 = .ok (.ldc 83, 2) := by decide +kernel
theorem f_54_14 : decode (mB 54) 14 = .ok (.invokevirtual 84, 3) := by decide +kernel
theorem f_54_17 : decode (mB 54) 17 = .ok (.ireturn, 1) := by decide +kernel
theorem f_54_18 : decode (mB 54) 18 = .ok (.aload_n 0, 1) := by decide +kernel
theorem f_54_19 : decode (mB 54) 19 = .ok (.getfield 10, 3) := by decide +kernel
theorem f_54_22 : decode (mB 54) 22 = .ok (.getfield 206, 3) := by decide +kernel
theorem f_54_25 : decode (mB 54) 25 = .ok (.iload_n 1, 1) := by decide +kernel
theorem f_54_26 : decode (mB 54) 26 = .ok (.aaload, 1) := by decide +kernel
theorem f_54_27 : decode (mB 54) 27 = .ok (.astore_n 3, 1) := by decide +kernel
theorem f_54_28 : decode (mB 54) 28 = .ok (.iload_n 2, 1) := by decide +kernel
theorem f_54_29 : decode (mB 54) 29 = .ok (.tableswitch 105 0 9 #[55, 60, 65, 70, 75, 80, 85, 90, 95, 100], 55) := by decide +kernel
theorem f_54_84 : decode (mB 54) 84 = .ok (.aload_n 3, 1) := by decide +kernel
theorem f_54_85 : decode (mB 54) 85 = .ok (.getfield 210, 3) := by decide +kernel
theorem f_54_88 : decode (mB 54) 88 = .ok (.ireturn, 1) := by decide +kernel
theorem f_54_89 : decode (mB 54) 89 = .ok (.aload_n 3, 1) := by decide +kernel
theorem f_54_90 : decode (mB 54) 90 = .ok (.getfield 227, 3) := by decide +kernel
theorem f_54_93 : decode (mB 54) 93 = .ok (.ireturn, 1) := by decide +kernel
theorem f_54_94 : decode (mB 54) 94 = .ok (.aload_n 3, 1) := by decide +kernel
theorem f_54_95 : decode (mB 54) 95 = .ok (.getfield 237, 3) := by decide +kernel
theorem f_54_98 : decode (mB 54) 98 = .ok (.ireturn, 1) := by decide +kernel
theorem f_54_99 : decode (mB 54) 99 = .ok (.aload_n 3, 1) := by decide +kernel
theorem f_54_100 : decode (mB 54) 100 = .ok (.getfield 240, 3) := by decide +kernel
theorem f_54_103 : decode (mB 54) 103 = .ok (.ireturn, 1) := by decide +kernel
theorem f_54_104 : decode (mB 54) 104 = .ok (.aload_n 3, 1) := by decide +kernel
theorem f_54_105 : decode (mB 54) 105 = .ok (.getfield 243, 3) := by decide +kernel
theorem f_54_108 : decode (mB 54) 108 = .ok (.ireturn, 1) := by decide +kernel
theorem f_54_109 : decode (mB 54) 109 = .ok (.aload_n 3, 1) := by decide +kernel
theorem f_54_110 : decode (mB 54) 110 = .ok (.getfield 246, 3) := by decide +kernel
theorem f_54_113 : decode (mB 54) 113 = .ok (.ireturn, 1) := by decide +kernel
theorem f_54_114 : decode (mB 54) 114 = .ok (.aload_n 3, 1) := by decide +kernel
theorem f_54_115 : decode (mB 54) 115 = .ok (.getfield 249, 3) := by decide +kernel
theorem f_54_118 : decode (mB 54) 118 = .ok (.ireturn, 1) := by decide +kernel
theorem f_54_119 : decode (mB 54) 119 = .ok (.aload_n 3, 1) := by decide +kernel
theorem f_54_120 : decode (mB 54) 120 = .ok (.getfield 252, 3) := by decide +kernel
theorem f_54_123 : decode (mB 54) 123 = .ok (.ireturn, 1) := by decide +kernel
theorem f_54_124 : decode (mB 54) 124 = .ok (.aload_n 3, 1) := by decide +kernel
theorem f_54_125 : decode (mB 54) 125 = .ok (.getfield 217, 3) := by decide +kernel
theorem f_54_128 : decode (mB 54) 128 = .ok (.ireturn, 1) := by decide +kernel
theorem f_54_129 : decode (mB 54) 129 = .ok (.aload_n 3, 1) := by decide +kernel
theorem f_54_130 : decode (mB 54) 130 = .ok (.getfield 220, 3) := by decide +kernel
theorem f_54_133 : decode (mB 54) 133 = .ok (.ireturn, 1) := by decide +kernel
theorem f_54_134 : decode (mB 54) 134 = .ok (.aload_n 0, 1) := by decide +kernel
theorem f_54_135 : decode (mB 54) 135 = .ok (.ldc 83, 2) := by decide +kernel
theorem f_54_137 : decode (mB 54) 137 = .ok (.invokevirtual 84, 3) := by decide +kernel
theorem f_54_140 : decode (mB 54) 140 = .ok (.ireturn, 1) := by decide +kernel
theorem f_55_0 : decode (mB 55) 0 = .ok (.iload_n 1, 1) := by decide +kernel
theorem f_55_1 : decode (mB 55) 1 = .ok (.invokestatic 255, 3) := by decide +kernel
theorem f_55_4 : decode (mB 55) 4 = .ok (.ifCond .eq 13, 3) := by decide +kernel
theorem f_55_7 : decode (mB 55) 7 = .ok (.iload_n 2, 1) := by decide +kernel
theorem f_55_8 : decode (mB 55) 8 = .ok (.iconst 0, 1) := by decide +kernel
theorem f_55_9 : decode (mB 55) 9 = .ok (.bipush 49, 2) := by decide +kernel
theorem f_55_11 : decode (mB 55) 11 = .ok (.invokestatic 75, 3) := by decide +kernel
theorem f_55_14 : decode (mB 55) 14 = .ok (.ifCond .ne 10, 3) := by decide +kernel
theorem f_55_17 : decode (mB 55) 17 = .ok (.aload_n 0, 1) := by decide +kernel
theorem f_55_18 : decode (mB 55) 18 = .ok (.ldc 83, 2) := by decide +kernel
theorem f_55_20 : decode (mB 55) 20 = .ok (.invokevirtual 84, 3) := by decide +kernel
theorem f_55_23 : decode (mB 55) 23 = .ok (.ireturn, 1) := by decide +kernel
theorem f_55_24 : decode (mB 55) 24 = .ok (.aload_n 0, 1) := by decide +kernel
theorem f_55_25 : decode (mB 55) 25 = .ok (.getfield 10, 3) := by decide +kernel
theorem f_55_28 : decode (mB 55) 28 = .ok (.getfield 258, 3) := by decide +kernel
theorem f_55_31 : decode (mB 55) 31 = .ok (.iload_n 1, 1) := by decide +kernel
theorem f_55_32 : decode (mB 55) 32 = .ok (.iaload, 1) := by decide +kernel
theorem f_55_33 : decode (mB 55) 33 = .ok (.istore_n 3, 1) := by decide +kernel
theorem f_55_34 : decode (mB 55) 34 = .ok (.aload_n 0, 1) := by decide +kernel
theorem f_55_35 : decode (mB 55) 35 = .ok (.getfield 10, 3) := by decide +kernel
theorem f_55_38 : decode (mB 55) 38 = .ok (.getfield 258, 3) := by decide +kernel
theorem f_55_41 : decode (mB 55) 41 = .ok (.iload_n 1, 1) := by decide +kernel
theorem f_55_42 : decode (mB 55) 42 = .ok (.iload_n 2, 1) := by decide +kernel
theorem f_55_43 : decode (mB 55) 43 = .ok (.iastore, 1) := by decide +kernel
theorem f_55_44 : decode (mB 55) 44 = .ok (.iload_n 3, 1) := by decide +kernel
theorem f_55_45 : decode (mB 55) 45 = .ok (.ireturn, 1) := by decide +kernel
theorem f_56_0 : decode (mB 56) 0 = .ok (.iload_n 0, 1) := by decide +kernel
theorem f_56_1 : decode (mB 56) 1 = .ok (.iconst 0, 1) := by decide +kernel
theorem f_56_2 : decode (mB 56) 2 = .ok (.iconst 1, 1) := by decide +kernel
theorem f_56_3 : decode (mB 56) 3 = .ok (.invokestatic 75, 3) := by decide +kernel
theorem f_56_6 : decode (mB 56) 6 = .ok (.ireturn, 1) := by decide +kernel
theorem f_57_0 : decode (mB 57) 0 = .ok (.iload_n 1, 1) := by decide +kernel
theorem f_57_1 : decode (mB 57) 1 = .ok (.invokestatic 255, 3) := by decide +kernel
theorem f_57_4 : decode (mB 57) 4 = .ok (.ifCond .eq 22, 3) := by decide +kernel
theorem f_57_7 : decode (mB 57) 7 = .ok (.iload_n 2, 1) := by decide +kernel
theorem f_57_8 : decode (mB 57) 8 = .ok (.invokestatic 262, 3) := by decide +kernel
theorem f_57_11 : decode (mB 57) 11 = .ok (.ifCond .eq 15, 3) := by decide +kernel
theorem f_57_14 : decode (mB 57) 14 = .ok (.aload_n 0, 1) := by decide +kernel
theorem f_57_15 : decode (mB 57) 15 = .ok (.getfield 10, 3) := by decide +kernel
theorem f_57_18 : decode (mB 57) 18 = .ok (.iload_n 1, 1) := by decide +kernel
theorem f_57_19 : decode (mB 57) 19 = .ok (.iload_n 2, 1) := by decide +kernel
theorem f_57_20 : decode (mB 57) 20 = .ok (.invokevirtual 265, 3) := by decide +kernel
theorem f_57_23 : decode (mB 57) 23 = .ok (.goto 9, 3) := by decide +kernel
theorem f_57_26 : decode (mB 57) 26 = .ok (.aload_n 0, 1) := by decide +kernel
theorem f_57_27 : decode (mB 57) 27 = .ok (.ldc 83, 2) := by decide +kernel
theorem f_57_29 : decode (mB 57) 29 = .ok (.invokevirtual 84, 3) := by decide +kernel
theorem f_57_32 : decode (mB 57) 32 = .ok (.ireturn, 1) := by decide +kernel
theorem f_58_0 : decode (mB 58) 0 = .ok (.iload_n 0, 1) := by decide +kernel
theorem f_58_1 : decode (mB 58) 1 = .ok (.iconst 0, 1) := by decide +kernel
theorem f_58_2 : decode (mB 58) 2 = .ok (.sipush 400, 3) := by decide +kernel
theorem f_58_5 : decode (mB 58) 5 = .ok (.invokestatic 75, 3) := by decide +kernel
theorem f_58_8 : decode (mB 58) 8 = .ok (.ireturn, 1) := by decide +kernel
theorem f_59_0 : decode (mB 59) 0 = .ok (.bipush 50, 2) := by decide +kernel
theorem f_59_2 : decode (mB 59) 2 = .ok (.aload_n 0, 1) := by decide +kernel
theorem f_59_3 : decode (mB 59) 3 = .ok (.iload_n 1, 1) := by decide +kernel
theorem f_59_4 : decode (mB 59) 4 = .ok (.iload_n 2, 1) := by decide +kernel
theorem f_59_5 : decode (mB 59) 5 = .ok (.invokevirtual 185, 3) := by decide +kernel
theorem f_59_8 : decode (mB 59) 8 = .ok (.isub, 1) := by decide +kernel
theorem f_59_9 : decode (mB 59) 9 = .ok (.ireturn, 1) := by decide +kernel
theorem f_60_0 : decode (mB 60) 0 = .ok (.iload_n 2, 1) := by decide +kernel
theorem f_60_1 : decode (mB 60) 1 = .ok (.aload_n 0, 1) := by decide +kernel
theorem f_60_2 : decode (mB 60) 2 = .ok (.getfield 41, 3) := by decide +kernel
theorem f_60_5 : decode (mB 60) 5 = .ok (.iload_n 1, 1) := by decide +kernel
theorem f_60_6 : decode (mB 60) 6 = .ok (.iaload, 1) := by decide +kernel
theorem f_60_7 : decode (mB 60) 7 = .ok (.iadd, 1) := by decide +kernel
theorem f_60_8 : decode (mB 60) 8 = .ok (.bipush 50, 2) := by decide +kernel
theorem f_60_10 : decode (mB 60) 10 = .ok (.irem, 1) := by decide +kernel
theorem f_60_11 : decode (mB 60) 11 = .ok (.ireturn, 1) := by decide +kernel
theorem f_61_0 : decode (mB 61) 0 = .ok (.iload_n 1, 1) := by decide +kernel
theorem f_61_1 : decode (mB 61) 1 = .ok (.iconst 1, 1) := by decide +kernel
theorem f_61_2 : decode (mB 61) 2 = .ok (.bipush 8, 2) := by decide +kernel
theorem f_61_4 : decode (mB 61) 4 = .ok (.invokestatic 75, 3) := by decide +kernel
theorem f_61_7 : decode (mB 61) 7 = .ok (.ifCond .ne 10, 3) := by decide +kernel
theorem f_61_10 : decode (mB 61) 10 = .ok (.aload_n 0, 1) := by decide +kernel
theorem f_61_11 : decode (mB 61) 11 = .ok (.ldc 83, 2) := by decide +kernel
theorem f_61_13 : decode (mB 61) 13 = .ok (.invokevirtual 84, 3) := by decide +kernel
theorem f_61_16 : decode (mB 61) 16 = .ok (.ireturn, 1) := by decide +kernel
theorem f_61_17 : decode (mB 61) 17 = .ok (.aload_n 0, 1) := by decide +kernel
theorem f_61_18 : decode (mB 61) 18 = .ok (.getfield 40, 3) := by decide +kernel
theorem f_61_21 : decode (mB 61) 21 = .ok (.iload_n 1, 1) := by decide +kernel
theorem f_61_22 : decode (mB 61) 22 = .ok (.lload_n 2, 1) := by decide +kernel
theorem f_61_23 : decode (mB 61) 23 = .ok (.invokevirtual 268, 3) := by decide +kernel
theorem f_61_26 : decode (mB 61) 26 = .ok (.ifCond .eq 13, 3) := by decide +kernel
theorem f_61_29 : decode (mB 61) 29 = .ok (.aload_n 0, 1) := by decide +kernel
theorem f_61_30 : decode (mB 61) 30 = .ok (.getfield 40, 3) := by decide +kernel
theorem f_61_33 : decode (mB 61) 33 = .ok (.getfield 272, 3) := by decide +kernel
theorem f_61_36 : decode (mB 61) 36 = .ok (.goto 9, 3) := by decide +kernel
theorem f_61_39 : decode (mB 61) 39 = .ok (.aload_n 0, 1) := by decide +kernel
theorem f_61_40 : decode (mB 61) 40 = .ok (.ldc 91, 2) := by decide +kernel
theorem f_61_42 : decode (mB 61) 42 = .ok (.invokevirtual 84, 3) := by decide +kernel
theorem f_61_45 : decode (mB 61) 45 = .ok (.ireturn, 1) := by decide +kernel
theorem f_62_0 : decode (mB 62) 0 = .ok (.aload_n 0, 1) := by decide +kernel
theorem f_62_1 : decode (mB 62) 1 = .ok (.getfield 15, 3) := by decide +kernel
theorem f_62_4 : decode (mB 62) 4 = .ok (.iload_n 1, 1) := by decide +kernel
theorem f_62_5 : decode (mB 62) 5 = .ok (.iadd, 1) := by decide +kernel
theorem f_62_6 : decode (mB 62) 6 = .ok (.sipush 200, 3) := by decide +kernel
theorem f_62_9 : decode (mB 62) 9 = .ok (.if_icmp .le 5, 3) := by decide +kernel
theorem f_62_12 : decode (mB 62) 12 = .ok (.iconst 0, 1) := by decide +kernel
theorem f_62_13 : decode (mB 62) 13 = .ok (.ireturn, 1) := by decide +kernel
theorem f_62_14 : decode (mB 62) 14 = .ok (.iconst 0, 1) := by decide +kernel
theorem f_62_15 : decode (mB 62) 15 = .ok (.istore 4, 2) := by decide +kernel
theorem f_62_17 : decode (mB 62) 17 = .ok (.iload 4, 2) := by decide +kernel
theorem f_62_19 : decode (mB 62) 19 = .ok (.iload_n 1, 1) := by decide +kernel
theorem f_62_20 : decode (mB 62) 20 = .ok (.if_icmp .ge 33, 3) := by decide +kernel
theorem f_62_23 : decode (mB 62) 23 = .ok (.aload_n 0, 1) := by decide +kernel
theorem f_62_24 : decode (mB 62) 24 = .ok (.getfield 11, 3) := by decide +kernel
theorem f_62_27 : decode (mB 62) 27 = .ok (.aload_n 0, 1) := by decide +kernel
theorem f_62_28 : decode (mB 62) 28 = .ok (.getfield 15, 3) := by decide +kernel
theorem f_62_31 : decode (mB 62) 31 = .ok (.iload 4, 2) := by decide +kernel
theorem f_62_33 : decode (mB 62) 33 = .ok (.iadd, 1) := by decide +kernel
theorem f_62_34 : decode (mB 62) 34 = .ok (.lload_n 2, 1) := by decide +kernel
theorem f_62_35 : decode (mB 62) 35 = .ok (.bipush 8, 2) := by decide +kernel
theorem f_62_37 : decode (mB 62) 37 = .ok (.iload 4, 2) := by decide +kernel
theorem f_62_39 : decode (mB 62) 39 = .ok (.imul, 1) := by decide +kernel
theorem f_62_40 : decode (mB 62) 40 = .ok (.lushr, 1) := by decide +kernel
theorem f_62_41 : decode (mB 62) 41 = .ok (.l2i, 1) := by decide +kernel
theorem f_62_42 : decode (mB 62) 42 = .ok (.sipush 255, 3) := by decide +kernel
theorem f_62_45 : decode (mB 62) 45 = .ok (.iand, 1) := by decide +kernel
theorem f_62_46 : decode (mB 62) 46 = .ok (.iastore, 1) := by decide +kernel
theorem f_62_47 : decode (mB 62) 47 = .ok (.iinc 4 1, 3) := by decide +kernel
theorem f_62_50 : decode (mB 62) 50 = .ok (.goto (-33), 3) := by decide +kernel
theorem f_62_53 : decode (mB 62) 53 = .ok (.aload_n 0, 1) := by decide +kernel
theorem f_62_54 : decode (mB 62) 54 = .ok (.dup, 1) := by decide +kernel
theorem f_62_55 : decode (mB 62) 55 = .ok (.getfield 15, 3) := by decide +kernel
theorem f_62_58 : decode (mB 62) 58 = .ok (.iload_n 1, 1) := by decide +kernel
theorem f_62_59 : decode (mB 62) 59 = .ok (.iadd, 1) := by decide +kernel
theorem f_62_60 : decode (mB 62) 60 = .ok (.putfield 15, 3) := by decide +kernel
theorem f_62_63 : decode (mB 62) 63 = .ok (.iconst 1, 1) := by decide +kernel
theorem f_62_64 : decode (mB 62) 64 = .ok (.ireturn, 1) := by decide +kernel
theorem f_63_0 : decode (mB 63) 0 = .ok (.iload_n 1, 1) := by decide +kernel
theorem f_63_1 : decode (mB 63) 1 = .ok (.iconst 0, 1) := by decide +kernel
theorem f_63_2 : decode (mB 63) 2 = .ok (.iconst 4, 1) := by decide +kernel
theorem f_63_3 : decode (mB 63) 3 = .ok (.invokestatic 75, 3) := by decide +kernel
theorem f_63_6 : decode (mB 63) 6 = .ok (.ifCond .ne 10, 3) := by decide +kernel
theorem f_63_9 : decode (mB 63) 9 = .ok (.aload_n 0, 1) := by decide +kernel
theorem f_63_10 : decode (mB 63) 10 = .ok (.ldc 83, 2) := by decide +kernel
theorem f_63_12 : decode (mB 63) 12 = .ok (.invokevirtual 84, 3) := by decide +kernel
theorem f_63_15 : decode (mB 63) 15 = .ok (.ireturn, 1) := by decide +kernel
theorem f_63_16 : decode (mB 63) 16 = .ok (.aload_n 0, 1) := by decide +kernel
theorem f_63_17 : decode (mB 63) 17 = .ok (.getfield 40, 3) := by decide +kernel
theorem f_63_20 : decode (mB 63) 20 = .ok (.invokevirtual 275, 3) := by decide +kernel
theorem f_63_23 : decode (mB 63) 23 = .ok (.istore_n 2, 1) := by decide +kernel
theorem f_63_24 : decode (mB 63) 24 = .ok (.iload_n 2, 1) := by decide +kernel
theorem f_63_25 : decode (mB 63) 25 = .ok (.ifCond .ge 19, 3) := by decide +kernel
theorem f_63_28 : decode (mB 63) 28 = .ok (.aload_n 0, 1) := by decide +kernel
theorem f_63_29 : decode (mB 63) 29 = .ok (.getfield 10, 3) := by decide +kernel
theorem f_63_32 : decode (mB 63) 32 = .ok (.getfield 278, 3) := by decide +kernel
theorem f_63_35 : decode (mB 63) 35 = .ok (.iload_n 1, 1) := by decide +kernel
theorem f_63_36 : decode (mB 63) 36 = .ok (.aload_n 0, 1) := by decide +kernel
theorem f_63_37 : decode (mB 63) 37 = .ok (.getfield 40, 3) := by decide +kernel
theorem f_63_40 : decode (mB 63) 40 = .ok (.invokevirtual 282, 3) := by decide +kernel
theorem f_63_43 : decode (mB 63) 43 = .ok (.aastore, 1) := by decide +kernel
theorem f_63_44 : decode (mB 63) 44 = .ok (.aload_n 0, 1) := by decide +kernel
theorem f_63_45 : decode (mB 63) 45 = .ok (.getfield 40, 3) := by decide +kernel
theorem f_63_48 : decode (mB 63) 48 = .ok (.iconst 0, 1) := by decide +kernel
theorem f_63_49 : decode (mB 63) 49 = .ok (.putfield 272, 3) := by decide +kernel
theorem f_63_52 : decode (mB 63) 52 = .ok (.iload_n 2, 1) := by decide +kernel
theorem f_63_53 : decode (mB 63) 53 = .ok (.ireturn, 1) := by decide +kernel
theorem f_64_0 : decode (mB 64) 0 = .ok (.aload_n 0, 1) := by decide +kernel
theorem f_64_1 : decode (mB 64) 1 = .ok (.invokevirtual 40, 3) := by decide +kernel
theorem f_64_4 : decode (mB 64) 4 = .ok (.aload_n 0, 1) := by decide +kernel
theorem f_64_5 : decode (mB 64) 5 = .ok (.iconst 0, 1) := by decide +kernel
theorem f_64_6 : decode (mB 64) 6 = .ok (.putfield 28, 3) := by decide +kernel
theorem f_64_9 : decode (mB 64) 9 = .ok (.aload_n 0, 1) := by decide +kernel
theorem f_64_10 : decode (mB 64) 10 = .ok (.iconst 0, 1) := by decide +kernel
theorem f_64_11 : decode (mB 64) 11 = .ok (.putfield 34, 3) := by decide +kernel
theorem f_64_14 : decode (mB 64) 14 = .ok (.iconst 0, 1) := by decide +kernel
theorem f_64_15 : decode (mB 64) 15 = .ok (.istore_n 1, 1) := by decide +kernel
theorem f_64_16 : decode (mB 64) 16 = .ok (.iload_n 1, 1) := by decide +kernel
theorem f_64_17 : decode (mB 64) 17 = .ok (.iconst 3, 1) := by decide +kernel
theorem f_64_18 : decode (mB 64) 18 = .ok (.if_icmp .ge 57, 3) := by decide +kernel
theorem f_64_21 : decode (mB 64) 21 = .ok (.aload_n 0, 1) := by decide +kernel
theorem f_64_22 : decode (mB 64) 22 = .ok (.getfield 37, 3) := by decide +kernel
theorem f_64_25 : decode (mB 64) 25 = .ok (.iload_n 1, 1) := by decide +kernel
theorem f_64_26 : decode (mB 64) 26 = .ok (.aload_n 0, 1) := by decide +kernel
theorem f_64_27 : decode (mB 64) 27 = .ok (.getfield 34, 3) := by decide +kernel
theorem f_64_30 : decode (mB 64) 30 = .ok (.iastore, 1) := by decide +kernel
theorem f_64_31 : decode (mB 64) 31 = .ok (.aload_n 0, 1) := by decide +kernel
theorem f_64_32 : decode (mB 64) 32 = .ok (.bipush 11, 2) := by decide +kernel
theorem f_64_34 : decode (mB 64) 34 = .ok (.iload_n 1, 1) := by decide +kernel
theorem f_64_35 : decode (mB 64) 35 = .ok (.iadd, 1) := by decide +kernel
theorem f_64_36 : decode (mB 64) 36 = .ok (.invokevirtual 43, 3) := by decide +kernel
theorem f_64_39 : decode (mB 64) 39 = .ok (.ifCond .eq 20, 3) := by decide +kernel
theorem f_64_42 : decode (mB 64) 42 = .ok (.aload_n 0, 1) := by decide +kernel
theorem f_64_43 : decode (mB 64) 43 = .ok (.iconst 0, 1) := by decide +kernel
theorem f_64_44 : decode (mB 64) 44 = .ok (.invokevirtual 47, 3) := by decide +kernel
theorem f_64_47 : decode (mB 64) 47 = .ok (.ifCond .eq 12, 3) := by decide +kernel
theorem f_64_50 : decode (mB 64) 50 = .ok (.aload_n 0, 1) := by decide +kernel
theorem f_64_51 : decode (mB 64) 51 = .ok (.bipush 19, 2) := by decide +kernel
theorem f_64_53 : decode (mB 64) 53 = .ok (.invokevirtual 43, 3) := by decide +kernel
theorem f_64_56 : decode (mB 64) 56 = .ok (.ifCond .ne 13, 3) := by decide +kernel
theorem f_64_59 : decode (mB 64) 59 = .ok (.aload_n 0, 1) := by decide +kernel
theorem f_64_60 : decode (mB 64) 60 = .ok (.getfield 22, 3) := by decide +kernel
theorem f_64_63 : decode (mB 64) 63 = .ok (.aload_n 0, 1) := by decide +kernel
theorem f_64_64 : decode (mB 64) 64 = .ok (.getfield 28, 3) := by decide +kernel
theorem f_64_67 : decode (mB 64) 67 = .ok (.iaload, 1) := by decide +kernel
theorem f_64_68 : decode (mB 64) 68 = .ok (.ireturn, 1) := by decide +kernel
theorem f_64_69 : decode (mB 64) 69 = .ok (.iinc 1 1, 3) := by decide +kernel
theorem f_64_72 : decode (mB 64) 72 = .ok (.goto (-56), 3) := by decide +kernel
theorem f_64_75 : decode (mB 64) 75 = .ok (.aload_n 0, 1) := by decide +kernel
theorem f_64_76 : decode (mB 64) 76 = .ok (.getfield 19, 3) := by decide +kernel
theorem f_64_79 : decode (mB 64) 79 = .ok (.aload_n 0, 1) := by decide +kernel
theorem f_64_80 : decode (mB 64) 80 = .ok (.getfield 28, 3) := by decide +kernel
theorem f_64_83 : decode (mB 64) 83 = .ok (.iaload, 1) := by decide +kernel
theorem f_64_84 : decode (mB 64) 84 = .ok (.bipush 24, 2) := by decide +kernel
theorem f_64_86 : decode (mB 64) 86 = .ok (.if_icmp .ne 7, 3) := by decide +kernel
theorem f_64_89 : decode (mB 64) 89 = .ok (.iconst (-1), 1) := by decide +kernel
theorem f_64_90 : decode (mB 64) 90 = .ok (.goto 12, 3) := by decide +kernel
theorem f_64_93 : decode (mB 64) 93 = .ok (.aload_n 0, 1) := by decide +kernel
theorem f_64_94 : decode (mB 64) 94 = .ok (.getfield 22, 3) := by decide +kernel
theorem f_64_97 : decode (mB 64) 97 = .ok (.aload_n 0, 1) := by decide +kernel
theorem f_64_98 : decode (mB 64) 98 = .ok (.getfield 28, 3) := by decide +kernel
theorem f_64_101 : decode (mB 64) 101 = .ok (.iaload, 1) := by decide +kernel
theorem f_64_102 : decode (mB 64) 102 = .ok (.ireturn, 1) := by decide +kernel
theorem f_65_0 : decode (mB 65) 0 = .ok (.aload_n 0, 1) := by decide +kernel
theorem f_65_1 : decode (mB 65) 1 = .ok (.iconst 0, 1) := by decide +kernel
theorem f_65_2 : decode (mB 65) 2 = .ok (.putfield 25, 3) := by decide +kernel
theorem f_65_5 : decode (mB 65) 5 = .ok (.iconst 0, 1) := by decide +kernel
theorem f_65_6 : decode (mB 65) 6 = .ok (.istore_n 1, 1) := by decide +kernel
theorem f_65_7 : decode (mB 65) 7 = .ok (.iconst 0, 1) := by decide +kernel
theorem f_65_8 : decode (mB 65) 8 = .ok (.istore_n 2, 1) := by decide +kernel
theorem f_65_9 : decode (mB 65) 9 = .ok (.iload_n 2, 1) := by decide +kernel
theorem f_65_10 : decode (mB 65) 10 = .ok (.aload_n 0, 1) := by decide +kernel
theorem f_65_11 : decode (mB 65) 11 = .ok (.getfield 15, 3) := by decide +kernel
theorem f_65_14 : decode (mB 65) 14 = .ok (.if_icmp .ge 66, 3) := by decide +kernel
theorem f_65_17 : decode (mB 65) 17 = .ok (.iload_n 2, 1) := by decide +kernel
theorem f_65_18 : decode (mB 65) 18 = .ok (.iload_n 1, 1) := by decide +kernel
theorem f_65_19 : decode (mB 65) 19 = .ok (.if_icmp .lt 55, 3) := by decide +kernel
theorem f_65_22 : decode (mB 65) 22 = .ok (.aload_n 0, 1) := by decide +kernel
theorem f_65_23 : decode (mB 65) 23 = .ok (.getfield 11, 3) := by decide +kernel
theorem f_65_26 : decode (mB 65) 26 = .ok (.iload_n 2, 1) := by decide +kernel
theorem f_65_27 : decode (mB 65) 27 = .ok (.iaload, 1) := by decide +kernel
theorem f_65_28 : decode (mB 65) 28 = .ok (.bipush 32, 2) := by decide +kernel
theorem f_65_30 : decode (mB 65) 30 = .ok (.if_icmp .eq 44, 3) := by decide +kernel
theorem f_65_33 : decode (mB 65) 33 = .ok (.aload_n 0, 1) := by decide +kernel
theorem f_65_34 : decode (mB 65) 34 = .ok (.iload_n 2, 1) := by decide +kernel
theorem f_65_35 : decode (mB 65) 35 = .ok (.invokevirtual 61, 3) := by decide +kernel
theorem f_65_38 : decode (mB 65) 38 = .ok (.istore_n 1, 1) := by decide +kernel
theorem f_65_39 : decode (mB 65) 39 = .ok (.aload_n 0, 1) := by decide +kernel
theorem f_65_40 : decode (mB 65) 40 = .ok (.getfield 19, 3) := by decide +kernel
theorem f_65_43 : decode (mB 65) 43 = .ok (.aload_n 0, 1) := by decide +kernel
theorem f_65_44 : decode (mB 65) 44 = .ok (.getfield 25, 3) := by decide +kernel
theorem f_65_47 : decode (mB 65) 47 = .ok (.aload_n 0, 1) := by decide +kernel
theorem f_65_48 : decode (mB 65) 48 = .ok (.iload_n 2, 1) := by decide +kernel
theorem f_65_49 : decode (mB 65) 49 = .ok (.iload_n 1, 1) := by decide +kernel
theorem f_65_50 : decode (mB 65) 50 = .ok (.invokevirtual 65, 3) := by decide +kernel
theorem f_65_53 : decode (mB 65) 53 = .ok (.iastore, 1) := by decide +kernel
theorem f_65_54 : decode (mB 65) 54 = .ok (.aload_n 0, 1) := by decide +kernel
theorem f_65_55 : decode (mB 65) 55 = .ok (.getfield 22, 3) := by decide +kernel
theorem f_65_58 : decode (mB 65) 58 = .ok (.aload_n 0, 1) := by decide +kernel
theorem f_65_59 : decode (mB 65) 59 = .ok (.getfield 25, 3) := by decide +kernel
theorem f_65_62 : decode (mB 65) 62 = .ok (.iload_n 2, 1) := by decide +kernel
theorem f_65_63 : decode (mB 65) 63 = .ok (.iastore, 1) := by decide +kernel
theorem f_65_64 : decode (mB 65) 64 = .ok (.aload_n 0, 1) := by decide +kernel
theorem f_65_65 : decode (mB 65) 65 = .ok (.dup, 1) := by decide +kernel
theorem f_65_66 : decode (mB 65) 66 = .ok (.getfield 25, 3) := by decide +kernel
theorem f_65_69 : decode (mB 65) 69 = .ok (.iconst 1, 1) := by decide +kernel
theorem f_65_70 : decode (mB 65) 70 = .ok (.iadd, 1) := by decide +kernel
theorem f_65_71 : decode (mB 65) 71 = .ok (.putfield 25, 3) := by decide +kernel
theorem f_65_74 : decode (mB 65) 74 = .ok (.iinc 2 1, 3) := by decide +kernel
theorem f_65_77 : decode (mB 65) 77 = .ok (.goto (-68), 3) := by decide +kernel
theorem f_65_80 : decode (mB 65) 80 = .ok (.aload_n 0, 1) := by decide +kernel
theorem f_65_81 : decode (mB 65) 81 = .ok (.getfield 19, 3) := by decide +kernel
theorem f_65_84 : decode (mB 65) 84 = .ok (.aload_n 0, 1) := by decide +kernel
theorem f_65_85 : decode (mB 65) 85 = .ok (.getfield 25, 3) := by decide +kernel
theorem f_65_88 : decode (mB 65) 88 = .ok (.bipush 24, 2) := by decide +kernel
theorem f_65_90 : decode (mB 65) 90 = .ok (.iastore, 1) := by decide +kernel
theorem f_65_91 : decode (mB 65) 91 = .ok (.aload_n 0, 1) := by decide +kernel
theorem f_65_92 : decode (mB 65) 92 = .ok (.getfield 22, 3) := by decide +kernel
theorem f_65_95 : decode (mB 65) 95 = .ok (.aload_n 0, 1) := by decide +kernel
theorem f_65_96 : decode (mB 65) 96 = .ok (.getfield 25, 3) := by decide +kernel
theorem f_65_99 : decode (mB 65) 99 = .ok (.aload_n 0, 1) := by decide +kernel
theorem f_65_100 : decode (mB 65) 100 = .ok (.getfield 15, 3) := by decide +kernel
theorem f_65_103 : decode (mB 65) 103 = .ok (.iastore, 1) := by decide +kernel
theorem f_65_104 : decode (mB 65) 104 = .ok (.return_, 1) := by decide +kernel
theorem f_66_0 : decode (mB 66) 0 = .ok (.iload_n 1, 1) := by decide +kernel
theorem f_66_1 : decode (mB 66) 1 = .ok (.iconst 1, 1) := by decide +kernel
theorem f_66_2 : decode (mB 66) 2 = .ok (.iadd, 1) := by decide +kernel
theorem f_66_3 : decode (mB 66) 3 = .ok (.istore_n 2, 1) := by decide +kernel
theorem f_66_4 : decode (mB 66) 4 = .ok (.aload_n 0, 1) := by decide +kernel
theorem f_66_5 : decode (mB 66) 5 = .ok (.iload_n 1, 1) := by decide +kernel
theorem f_66_6 : decode (mB 66) 6 = .ok (.invokevirtual 69, 3) := by decide +kernel
theorem f_66_9 : decode (mB 66) 9 = .ok (.ifCond .eq 25, 3) := by decide +kernel
theorem f_66_12 : decode (mB 66) 12 = .ok (.iload_n 2, 1) := by decide +kernel
theorem f_66_13 : decode (mB 66) 13 = .ok (.aload_n 0, 1) := by decide +kernel
theorem f_66_14 : decode (mB 66) 14 = .ok (.getfield 15, 3) := by decide +kernel
theorem f_66_17 : decode (mB 66) 17 = .ok (.if_icmp .ge 47, 3) := by decide +kernel
theorem f_66_20 : decode (mB 66) 20 = .ok (.aload_n 0, 1) := by decide +kernel
theorem f_66_21 : decode (mB 66) 21 = .ok (.iload_n 2, 1) := by decide +kernel
theorem f_66_22 : decode (mB 66) 22 = .ok (.invokevirtual 69, 3) := by decide +kernel
theorem f_66_25 : decode (mB 66) 25 = .ok (.ifCond .eq 39, 3) := by decide +kernel
theorem f_66_28 : decode (mB 66) 28 = .ok (.iinc 2 1, 3) := by decide +kernel
theorem f_66_31 : decode (mB 66) 31 = .ok (.goto (-19), 3) := by decide +kernel
theorem f_66_34 : decode (mB 66) 34 = .ok (.aload_n 0, 1) := by decide +kernel
theorem f_66_35 : decode (mB 66) 35 = .ok (.iload_n 1, 1) := by decide +kernel
theorem f_66_36 : decode (mB 66) 36 = .ok (.invokevirtual 72, 3) := by decide +kernel
theorem f_66_39 : decode (mB 66) 39 = .ok (.ifCond .eq 25, 3) := by decide +kernel
theorem f_66_42 : decode (mB 66) 42 = .ok (.iload_n 2, 1) := by decide +kernel
theorem f_66_43 : decode (mB 66) 43 = .ok (.aload_n 0, 1) := by decide +kernel
theorem f_66_44 : decode (mB 66) 44 = .ok (.getfield 15, 3) := by decide +kernel
theorem f_66_47 : decode (mB 66) 47 = .ok (.if_icmp .ge 17, 3) := by decide +kernel
theorem f_66_50 : decode (mB 66) 50 = .ok (.aload_n 0, 1) := by decide +kernel
theorem f_66_51 : decode (mB 66) 51 = .ok (.iload_n 2, 1) := by decide +kernel
theorem f_66_52 : decode (mB 66) 52 = .ok (.invokevirtual 72, 3) := by decide +kernel
theorem f_66_55 : decode (mB 66) 55 = .ok (.ifCond .eq 9, 3) := by decide +kernel
theorem f_66_58 : decode (mB 66) 58 = .ok (.iinc 2 1, 3) := by decide +kernel
theorem f_66_61 : decode (mB 66) 61 = .ok (.goto (-19), 3) := by decide +kernel
theorem f_66_64 : decode (mB 66) 64 = .ok (.iload_n 2, 1) := by decide +kernel
theorem f_66_65 : decode (mB 66) 65 = .ok (.ireturn, 1) := by decide +kernel
theorem f_67_0 : decode (mB 67) 0 = .ok (.aload_n 0, 1) := by decide +kernel
theorem f_67_1 : decode (mB 67) 1 = .ok (.getfield 11, 3) := by decide +kernel
theorem f_67_4 : decode (mB 67) 4 = .ok (.iload_n 1, 1) := by decide +kernel
theorem f_67_5 : decode (mB 67) 5 = .ok (.iaload, 1) := by decide +kernel
theorem f_67_6 : decode (mB 67) 6 = .ok (.bipush 97, 2) := by decide +kernel
theorem f_67_8 : decode (mB 67) 8 = .ok (.bipush 122, 2) := by decide +kernel
theorem f_67_10 : decode (mB 67) 10 = .ok (.invokestatic 97, 3) := by decide +kernel
theorem f_67_13 : decode (mB 67) 13 = .ok (.ireturn, 1) := by decide +kernel
theorem f_68_0 : decode (mB 68) 0 = .ok (.aload_n 0, 1) := by decide +kernel
theorem f_68_1 : decode (mB 68) 1 = .ok (.getfield 11, 3) := by decide +kernel
theorem f_68_4 : decode (mB 68) 4 = .ok (.iload_n 1, 1) := by decide +kernel
theorem f_68_5 : decode (mB 68) 5 = .ok (.iaload, 1) := by decide +kernel
theorem f_68_6 : decode (mB 68) 6 = .ok (.bipush 48, 2) := by decide +kernel
theorem f_68_8 : decode (mB 68) 8 = .ok (.bipush 57, 2) := by decide +kernel
theorem f_68_10 : decode (mB 68) 10 = .ok (.invokestatic 97, 3) := by decide +kernel
theorem f_68_13 : decode (mB 68) 13 = .ok (.ireturn, 1) := by decide +kernel
theorem f_69_0 : decode (mB 69) 0 = .ok (.aload_n 0, 1) := by decide +kernel
theorem f_69_1 : decode (mB 69) 1 = .ok (.iload_n 1, 1) := by decide +kernel
theorem f_69_2 : decode (mB 69) 2 = .ok (.invokevirtual 69, 3) := by decide +kernel
theorem f_69_5 : decode (mB 69) 5 = .ok (.ifCond .eq 10, 3) := by decide +kernel
theorem f_69_8 : decode (mB 69) 8 = .ok (.aload_n 0, 1) := by decide +kernel
theorem f_69_9 : decode (mB 69) 9 = .ok (.iload_n 1, 1) := by decide +kernel
theorem f_69_10 : decode (mB 69) 10 = .ok (.iload_n 2, 1) := by decide +kernel
theorem f_69_11 : decode (mB 69) 11 = .ok (.invokevirtual 75, 3) := by decide +kernel
theorem f_69_14 : decode (mB 69) 14 = .ok (.ireturn, 1) := by decide +kernel
theorem f_69_15 : decode (mB 69) 15 = .ok (.aload_n 0, 1) := by decide +kernel
theorem f_69_16 : decode (mB 69) 16 = .ok (.iload_n 1, 1) := by decide +kernel
theorem f_69_17 : decode (mB 69) 17 = .ok (.invokevirtual 72, 3) := by decide +kernel
theorem f_69_20 : decode (mB 69) 20 = .ok (.ifCond .eq 10, 3) := by decide +kernel
theorem f_69_23 : decode (mB 69) 23 = .ok (.aload_n 0, 1) := by decide +kernel
theorem f_69_24 : decode (mB 69) 24 = .ok (.iload_n 1, 1) := by decide +kernel
theorem f_69_25 : decode (mB 69) 25 = .ok (.iload_n 2, 1) := by decide +kernel
theorem f_69_26 : decode (mB 69) 26 = .ok (.invokevirtual 78, 3) := by decide +kernel
theorem f_69_29 : decode (mB 69) 29 = .ok (.ireturn, 1) := by decide +kernel
theorem f_69_30 : decode (mB 69) 30 = .ok (.ldc 81, 2) := by decide +kernel
theorem f_69_32 : decode (mB 69) 32 = .ok (.aload_n 0, 1) := by decide +kernel
theorem f_69_33 : decode (mB 69) 33 = .ok (.getfield 11, 3) := by decide +kernel
theorem f_69_36 : decode (mB 69) 36 = .ok (.iload_n 1, 1) := by decide +kernel
theorem f_69_37 : decode (mB 69) 37 = .ok (.iaload, 1) := by decide +kernel
theorem f_69_38 : decode (mB 69) 38 = .ok (.i2c, 1) := by decide +kernel
theorem f_69_39 : decode (mB 69) 39 = .ok (.invokevirtual 83, 3) := by decide +kernel
theorem f_69_42 : decode (mB 69) 42 = .ok (.istore_n 3, 1) := by decide +kernel
theorem f_69_43 : decode (mB 69) 43 = .ok (.iload_n 3, 1) := by decide +kernel
theorem f_69_44 : decode (mB 69) 44 = .ok (.ifCond .ge 8, 3) := by decide +kernel
theorem f_69_47 : decode (mB 69) 47 = .ok (.bipush 25, 2) := by decide +kernel
theorem f_69_49 : decode (mB 69) 49 = .ok (.goto 7, 3) := by decide +kernel
theorem f_69_52 : decode (mB 69) 52 = .ok (.bipush 17, 2) := by decide +kernel
theorem f_69_54 : decode (mB 69) 54 = .ok (.iload_n 3, 1) := by decide +kernel
theorem f_69_55 : decode (mB 69) 55 = .ok (.iadd, 1) := by decide +kernel
theorem f_69_56 : decode (mB 69) 56 = .ok (.ireturn, 1) := by decide +kernel
theorem f_70_0 : decode (mB 70) 0 = .ok (.iconst 0, 1) := by decide +kernel
theorem f_70_1 : decode (mB 70) 1 = .ok (.istore_n 3, 1) := by decide +kernel
theorem f_70_2 : decode (mB 70) 2 = .ok (.iload_n 1, 1) := by decide +kernel
theorem f_70_3 : decode (mB 70) 3 = .ok (.istore 4, 2) := by decide +kernel
theorem f_70_5 : decode (mB 70) 5 = .ok (.iconst 1, 1) := by decide +kernel
theorem f_70_6 : decode (mB 70) 6 = .ok (.istore 5, 2) := by decide +kernel
theorem f_70_8 : decode (mB 70) 8 = .ok (.iconst 0, 1) := by decide +kernel
theorem f_70_9 : decode (mB 70) 9 = .ok (.istore 6, 2) := by decide +kernel
theorem f_70_11 : decode (mB 70) 11 = .ok (.iload 6, 2) := by decide +kernel
theorem f_70_13 : decode (mB 70) 13 = .ok (.ldc 88, 2) := by decide +kernel
theorem f_70_15 : decode (mB 70) 15 = .ok (.invokevirtual 90, 3) := by decide +kernel
theorem f_70_18 : decode (mB 70) 18 = .ok (.if_icmp .ge 83, 3) := by decide +kernel
theorem f_70_21 : decode (mB 70) 21 = .ok (.ldc 88, 2) := by decide +kernel
theorem f_70_23 : decode (mB 70) 23 = .ok (.iload 6, 2) := by decide +kernel
theorem f_70_25 : decode (mB 70) 25 = .ok (.invokevirtual 93, 3) := by decide +kernel
theorem f_70_28 : decode (mB 70) 28 = .ok (.istore 7, 2) := by decide +kernel
theorem f_70_30 : decode (mB 70) 30 = .ok (.iload 7, 2) := by decide +kernel
theorem f_70_32 : decode (mB 70) 32 = .ok (.bipush 32, 2) := by decide +kernel
theorem f_70_34 : decode (mB 70) 34 = .ok (.if_icmp .ne 28, 3) := by decide +kernel
theorem f_70_37 : decode (mB 70) 37 = .ok (.iload 5, 2) := by decide +kernel
theorem f_70_39 : decode (mB 70) 39 = .ok (.ifCond .eq 11, 3) := by decide +kernel
theorem f_70_42 : decode (mB 70) 42 = .ok (.iload 4, 2) := by decide +kernel
theorem f_70_44 : decode (mB 70) 44 = .ok (.iload_n 2, 1) := by decide +kernel
theorem f_70_45 : decode (mB 70) 45 = .ok (.if_icmp .ne 5, 3) := by decide +kernel
theorem f_70_48 : decode (mB 70) 48 = .ok (.iload_n 3, 1) := by decide +kernel
theorem f_70_49 : decode (mB 70) 49 = .ok (.ireturn, 1) := by decide +kernel
theorem f_70_50 : decode (mB 70) 50 = .ok (.iinc 3 1, 3) := by decide +kernel
theorem f_70_53 : decode (mB 70) 53 = .ok (.iload_n 1, 1) := by decide +kernel
theorem f_70_54 : decode (mB 70) 54 = .ok (.istore 4, 2) := by decide +kernel
theorem f_70_56 : decode (mB 70) 56 = .ok (.iconst 1, 1) := by decide +kernel
theorem f_70_57 : decode (mB 70) 57 = .ok (.istore 5, 2) := by decide +kernel
theorem f_70_59 : decode (mB 70) 59 = .ok (.goto 36, 3) := by decide +kernel
theorem f_70_62 : decode (mB 70) 62 = .ok (.iload 5, 2) := by decide +kernel
theorem f_70_64 : decode (mB 70) 64 = .ok (.ifCond .eq 25, 3) := by decide +kernel
theorem f_70_67 : decode (mB 70) 67 = .ok (.iload 4, 2) := by decide +kernel
theorem f_70_69 : decode (mB 70) 69 = .ok (.iload_n 2, 1) := by decide +kernel
theorem f_70_70 : decode (mB 70) 70 = .ok (.if_icmp .ge 19, 3) := by decide +kernel
theorem f_70_73 : decode (mB 70) 73 = .ok (.aload_n 0, 1) := by decide +kernel
theorem f_70_74 : decode (mB 70) 74 = .ok (.getfield 11, 3) := by decide +kernel
theorem f_70_77 : decode (mB 70) 77 = .ok (.iload 4, 2) := by decide +kernel
theorem f_70_79 : decode (mB 70) 79 = .ok (.iaload, 1) := by decide +kernel
theorem f_70_80 : decode (mB 70) 80 = .ok (.iload 7, 2) := by decide +kernel
theorem f_70_82 : decode (mB 70) 82 = .ok (.if_icmp .ne 7, 3) := by decide +kernel
theorem f_70_85 : decode (mB 70) 85 = .ok (.iconst 1, 1) := by decide +kernel
theorem f_70_86 : decode (mB 70) 86 = .ok (.goto 4, 3) := by decide +kernel
theorem f_70_89 : decode (mB 70) 89 = .ok (.iconst 0, 1) := by decide +kernel
theorem f_70_90 : decode (mB 70) 90 = .ok (.istore 5, 2) := by decide +kernel
theorem f_70_92 : decode (mB 70) 92 = .ok (.iinc 4 1, 3) := by decide +kernel
theorem f_70_95 : decode (mB 70) 95 = .ok (.iinc 6 1, 3) := by decide +kernel
theorem f_70_98 : decode (mB 70) 98 = .ok (.goto (-87), 3) := by decide +kernel
theorem f_70_101 : decode (mB 70) 101 = .ok (.bipush 25, 2) := by decide +kernel
theorem f_70_103 : decode (mB 70) 103 = .ok (.ireturn, 1) := by decide +kernel
theorem f_71_0 : decode (mB 71) 0 = .ok (.aload_n 0, 1) := by decide +kernel
theorem f_71_1 : decode (mB 71) 1 = .ok (.getfield 9, 3) := by decide +kernel
theorem f_71_4 : decode (mB 71) 4 = .ok (.arraylength, 1) := by decide +kernel
theorem f_71_5 : decode (mB 71) 5 = .ok (.aload_n 0, 1) := by decide +kernel
theorem f_71_6 : decode (mB 71) 6 = .ok (.invokevirtual 335, 3) := by decide +kernel
theorem f_71_9 : decode (mB 71) 9 = .ok (.ishr, 1) := by decide +kernel
theorem f_71_10 : decode (mB 71) 10 = .ok (.ireturn, 1) := by decide +kernel
theorem f_72_0 : decode (mB 72) 0 = .ok (.getstatic 38, 3) := by decide +kernel
theorem f_72_3 : decode (mB 72) 3 = .ok (.ifCond .eq 10, 3) := by decide +kernel
theorem f_72_6 : decode (mB 72) 6 = .ok (.aload_n 0, 1) := by decide +kernel
theorem f_72_7 : decode (mB 72) 7 = .ok (.getfield 15, 3) := by decide +kernel
theorem f_72_10 : decode (mB 72) 10 = .ok (.goto 4, 3) := by decide +kernel
theorem f_72_13 : decode (mB 72) 13 = .ok (.iconst 1, 1) := by decide +kernel
theorem f_72_14 : decode (mB 72) 14 = .ok (.ireturn, 1) := by decide +kernel
theorem f_73_0 : decode (mB 73) 0 = .ok (.aload_n 0, 1) := by decide +kernel
theorem f_73_1 : decode (mB 73) 1 = .ok (.invokevirtual 492, 3) := by decide +kernel
theorem f_73_4 : decode (mB 73) 4 = .ok (.ifCond .eq 12, 3) := by decide +kernel
theorem f_73_7 : decode (mB 73) 7 = .ok (.aload_n 0, 1) := by decide +kernel
theorem f_73_8 : decode (mB 73) 8 = .ok (.getfield 9, 3) := by decide +kernel
theorem f_73_11 : decode (mB 73) 11 = .ok (.iload_n 1, 1) := by decide +kernel
theorem f_73_12 : decode (mB 73) 12 = .ok (.invokestatic 495, 3) := by decide +kernel
theorem f_73_15 : decode (mB 73) 15 = .ok (.ireturn, 1) := by decide +kernel
theorem f_73_16 : decode (mB 73) 16 = .ok (.aload_n 0, 1) := by decide +kernel
theorem f_73_17 : decode (mB 73) 17 = .ok (.getfield 9, 3) := by decide +kernel
theorem f_73_20 : decode (mB 73) 20 = .ok (.iload_n 1, 1) := by decide +kernel
theorem f_73_21 : decode (mB 73) 21 = .ok (.invokestatic 498, 3) := by decide +kernel
theorem f_73_24 : decode (mB 73) 24 = .ok (.ireturn, 1) := by decide +kernel
theorem f_74_0 : decode (mB 74) 0 = .ok (.getstatic 38, 3) := by decide +kernel
theorem f_74_3 : decode (mB 74) 3 = .ok (.ifCond .eq 14, 3) := by decide +kernel
theorem f_74_6 : decode (mB 74) 6 = .ok (.aload_n 0, 1) := by decide +kernel
theorem f_74_7 : decode (mB 74) 7 = .ok (.getfield 15, 3) := by decide +kernel
theorem f_74_10 : decode (mB 74) 10 = .ok (.ifCond .ne 7, 3) := by decide +kernel
theorem f_74_13 : decode (mB 74) 13 = .ok (.iconst 1, 1) := by decide +kernel
theorem f_74_14 : decode (mB 74) 14 = .ok (.goto 4, 3) := by decide +kernel
theorem f_74_17 : decode (mB 74) 17 = .ok (.iconst 0, 1) := by decide +kernel
theorem f_74_18 : decode (mB 74) 18 = .ok (.ireturn, 1) := by decide +kernel
theorem f_75_0 : decode (mB 75) 0 = .ok (.iload_n 1, 1) := by decide +kernel
theorem f_75_1 : decode (mB 75) 1 = .ok (.aload_n 0, 1) := by decide +kernel
theorem f_75_2 : decode (mB 75) 2 = .ok (.arraylength, 1) := by decide +kernel
theorem f_75_3 : decode (mB 75) 3 = .ok (.invokestatic 9, 3) := by decide +kernel
theorem f_75_6 : decode (mB 75) 6 = .ok (.aload_n 0, 1) := by decide +kernel
theorem f_75_7 : decode (mB 75) 7 = .ok (.iload_n 1, 1) := by decide +kernel
theorem f_75_8 : decode (mB 75) 8 = .ok (.baload, 1) := by decide +kernel
theorem f_75_9 : decode (mB 75) 9 = .ok (.sipush 255, 3) := by decide +kernel
theorem f_75_12 : decode (mB 75) 12 = .ok (.iand, 1) := by decide +kernel
theorem f_75_13 : decode (mB 75) 13 = .ok (.i2c, 1) := by decide +kernel
theorem f_75_14 : decode (mB 75) 14 = .ok (.ireturn, 1) := by decide +kernel
theorem f_76_0 : decode (mB 76) 0 = .ok (.iload_n 0, 1) := by decide +kernel
theorem f_76_1 : decode (mB 76) 1 = .ok (.iload_n 1, 1) := by decide +kernel
theorem f_76_2 : decode (mB 76) 2 = .ok (.getstatic 1053, 3) := by decide +kernel
theorem f_76_5 : decode (mB 76) 5 = .ok (.invokestatic 1059, 3) := by decide +kernel
theorem f_76_8 : decode (mB 76) 8 = .ok (.pop, 1) := by decide +kernel
theorem f_76_9 : decode (mB 76) 9 = .ok (.return_, 1) := by decide +kernel
theorem f_77_0 : decode (mB 77) 0 = .ok (.iload_n 0, 1) := by decide +kernel
theorem f_77_1 : decode (mB 77) 1 = .ok (.ifCond .lt 8, 3) := by decide +kernel
theorem f_77_4 : decode (mB 77) 4 = .ok (.iload_n 0, 1) := by decide +kernel
theorem f_77_5 : decode (mB 77) 5 = .ok (.iload_n 1, 1) := by decide +kernel
theorem f_77_6 : decode (mB 77) 6 = .ok (.if_icmp .lt 10, 3) := by decide +kernel
theorem f_77_9 : decode (mB 77) 9 = .ok (.aload_n 2, 1) := by decide +kernel
theorem f_77_10 : decode (mB 77) 10 = .ok (.iload_n 0, 1) := by decide +kernel
theorem f_77_11 : decode (mB 77) 11 = .ok (.iload_n 1, 1) := by decide +kernel
theorem f_77_12 : decode (mB 77) 12 = .ok (.invokestatic 95, 3) := by decide +kernel
theorem f_77_15 : decode (mB 77) 15 = .ok (.athrow, 1) := by decide +kernel
theorem f_77_16 : decode (mB 77) 16 = .ok (.iload_n 0, 1) := by decide +kernel
theorem f_77_17 : decode (mB 77) 17 = .ok (.ireturn, 1) := by decide +kernel
theorem f_82_0 : decode (mB 82) 0 = .ok (.iload_n 2, 1) := by decide +kernel
theorem f_82_1 : decode (mB 82) 1 = .ok (.iload_n 1, 1) := by decide +kernel
theorem f_82_2 : decode (mB 82) 2 = .ok (.isub, 1) := by decide +kernel
theorem f_82_3 : decode (mB 82) 3 = .ok (.iconst 4, 1) := by decide +kernel
theorem f_82_4 : decode (mB 82) 4 = .ok (.if_icmp .le 6, 3) := by decide +kernel
theorem f_82_7 : decode (mB 82) 7 = .ok (.bipush 25, 2) := by decide +kernel
theorem f_82_9 : decode (mB 82) 9 = .ok (.ireturn, 1) := by decide +kernel
theorem f_82_10 : decode (mB 82) 10 = .ok (.iconst 0, 1) := by decide +kernel
theorem f_82_11 : decode (mB 82) 11 = .ok (.istore_n 3, 1) := by decide +kernel
theorem f_82_12 : decode (mB 82) 12 = .ok (.iload_n 1, 1) := by decide +kernel
theorem f_82_13 : decode (mB 82) 13 = .ok (.istore 4, 2) := by decide +kernel
theorem f_82_15 : decode (mB 82) 15 = .ok (.iload 4, 2) := by decide +kernel
theorem f_82_17 : decode (mB 82) 17 = .ok (.iload_n 2, 1) := by decide +kernel
theorem f_82_18 : decode (mB 82) 18 = .ok (.if_icmp .ge 25, 3) := by decide +kernel
theorem f_82_21 : decode (mB 82) 21 = .ok (.bipush 10, 2) := by decide +kernel
theorem f_82_23 : decode (mB 82) 23 = .ok (.iload_n 3, 1) := by decide +kernel
theorem f_82_24 : decode (mB 82) 24 = .ok (.imul, 1) := by decide +kernel
theorem f_82_25 : decode (mB 82) 25 = .ok (.aload_n 0, 1) := by decide +kernel
theorem f_82_26 : decode (mB 82) 26 = .ok (.getfield 11, 3) := by decide +kernel
theorem f_82_29 : decode (mB 82) 29 = .ok (.iload 4, 2) := by decide +kernel
theorem f_82_31 : decode (mB 82) 31 = .ok (.iaload, 1) := by decide +kernel
theorem f_82_32 : decode (mB 82) 32 = .ok (.iadd, 1) := by decide +kernel
theorem f_82_33 : decode (mB 82) 33 = .ok (.bipush 48, 2) := by decide +kernel
theorem f_82_35 : decode (mB 82) 35 = .ok (.isub, 1) := by decide +kernel
theorem f_82_36 : decode (mB 82) 36 = .ok (.istore_n 3, 1) := by decide +kernel
theorem f_82_37 : decode (mB 82) 37 = .ok (.iinc 4 1, 3) := by decide +kernel
theorem f_82_40 : decode (mB 82) 40 = .ok (.goto (-25), 3) := by decide +kernel
theorem f_82_43 : decode (mB 82) 43 = .ok (.bipush 26, 2) := by decide +kernel
theorem f_82_45 : decode (mB 82) 45 = .ok (.iload_n 3, 1) := by decide +kernel
theorem f_82_46 : decode (mB 82) 46 = .ok (.iadd, 1) := by decide +kernel
theorem f_82_47 : decode (mB 82) 47 = .ok (.ireturn, 1) := by decide +kernel
theorem f_83_0 : decode (mB 83) 0 = .ok (.aload_n 0, 1) := by decide +kernel
theorem f_83_1 : decode (mB 83) 1 = .ok (.iload_n 1, 1) := by decide +kernel
theorem f_83_2 : decode (mB 83) 2 = .ok (.iconst 0, 1) := by decide +kernel
theorem f_83_3 : decode (mB 83) 3 = .ok (.invokevirtual 633, 3) := by decide +kernel
theorem f_83_6 : decode (mB 83) 6 = .ok (.ireturn, 1) := by decide +kernel
theorem f_84_0 : decode (mB 84) 0 = .ok (.aload_n 0, 1) := by decide +kernel
theorem f_84_1 : decode (mB 84) 1 = .ok (.invokevirtual 492, 3) := by decide +kernel
theorem f_84_4 : decode (mB 84) 4 = .ok (.ifCond .eq 19, 3) := by decide +kernel
theorem f_84_7 : decode (mB 84) 7 = .ok (.aload_n 0, 1) := by decide +kernel
theorem f_84_8 : decode (mB 84) 8 = .ok (.getfield 9, 3) := by decide +kernel
theorem f_84_11 : decode (mB 84) 11 = .ok (.iload_n 1, 1) := by decide +kernel
theorem f_84_12 : decode (mB 84) 12 = .ok (.iload_n 2, 1) := by decide +kernel
theorem f_84_13 : decode (mB 84) 13 = .ok (.aload_n 0, 1) := by decide +kernel
theorem f_84_14 : decode (mB 84) 14 = .ok (.invokevirtual 505, 3) := by decide +kernel
theorem f_84_17 : decode (mB 84) 17 = .ok (.invokestatic 637, 3) := by decide +kernel
theorem f_84_20 : decode (mB 84) 20 = .ok (.goto 16, 3) := by decide +kernel
theorem f_84_23 : decode (mB 84) 23 = .ok (.aload_n 0, 1) := by decide +kernel
theorem f_84_24 : decode (mB 84) 24 = .ok (.getfield 9, 3) := by decide +kernel
theorem f_84_27 : decode (mB 84) 27 = .ok (.iload_n 1, 1) := by decide +kernel
theorem f_84_28 : decode (mB 84) 28 = .ok (.iload_n 2, 1) := by decide +kernel
theorem f_84_29 : decode (mB 84) 29 = .ok (.aload_n 0, 1) := by decide +kernel
theorem f_84_30 : decode (mB 84) 30 = .ok (.invokevirtual 505, 3) := by decide +kernel
theorem f_84_33 : decode (mB 84) 33 = .ok (.invokestatic 640, 3) := by decide +kernel
theorem f_84_36 : decode (mB 84) 36 = .ok (.ireturn, 1) := by decide +kernel
theorem f_85_0 : decode (mB 85) 0 = .ok (.iload_n 1, 1) := by decide +kernel
theorem f_85_1 : decode (mB 85) 1 = .ok (.invokestatic 88, 3) := by decide +kernel
theorem f_85_4 : decode (mB 85) 4 = .ok (.ifCond .ne 5, 3) := by decide +kernel
theorem f_85_7 : decode (mB 85) 7 = .ok (.iconst (-1), 1) := by decide +kernel
theorem f_85_8 : decode (mB 85) 8 = .ok (.ireturn, 1) := by decide +kernel
theorem f_85_9 : decode (mB 85) 9 = .ok (.iload_n 2, 1) := by decide +kernel
theorem f_85_10 : decode (mB 85) 10 = .ok (.iconst 0, 1) := by decide +kernel
theorem f_85_11 : decode (mB 85) 11 = .ok (.invokestatic 92, 3) := by decide +kernel
theorem f_85_14 : decode (mB 85) 14 = .ok (.istore_n 2, 1) := by decide +kernel
theorem f_85_15 : decode (mB 85) 15 = .ok (.iload_n 3, 1) := by decide +kernel
theorem f_85_16 : decode (mB 85) 16 = .ok (.aload_n 0, 1) := by decide +kernel
theorem f_85_17 : decode (mB 85) 17 = .ok (.arraylength, 1) := by decide +kernel
theorem f_85_18 : decode (mB 85) 18 = .ok (.invokestatic 38, 3) := by decide +kernel
theorem f_85_21 : decode (mB 85) 21 = .ok (.istore_n 3, 1) := by decide +kernel
theorem f_85_22 : decode (mB 85) 22 = .ok (.iload_n 2, 1) := by decide +kernel
theorem f_85_23 : decode (mB 85) 23 = .ok (.iload_n 3, 1) := by decide +kernel
theorem f_85_24 : decode (mB 85) 24 = .ok (.if_icmp .lt 5, 3) := by decide +kernel
theorem f_85_27 : decode (mB 85) 27 = .ok (.iconst (-1), 1) := by decide +kernel
theorem f_85_28 : decode (mB 85) 28 = .ok (.ireturn, 1) := by decide +kernel
theorem f_85_29 : decode (mB 85) 29 = .ok (.aload_n 0, 1) := by decide +kernel
theorem f_85_30 : decode (mB 85) 30 = .ok (.iload_n 1, 1) := by decide +kernel
theorem f_85_31 : decode (mB 85) 31 = .ok (.iload_n 2, 1) := by decide +kernel
theorem f_85_32 : decode (mB 85) 32 = .ok (.iload_n 3, 1) := by decide +kernel
theorem f_85_33 : decode (mB 85) 33 = .ok (.invokestatic 95, 3) := by decide +kernel
theorem f_85_36 : decode (mB 85) 36 = .ok (.ireturn, 1) := by decide +kernel
theorem f_86_0 : decode (mB 86) 0 = .ok (.iload_n 0, 1) := by decide +kernel
theorem f_86_1 : decode (mB 86) 1 = .ok (.ifCond .lt 14, 3) := by decide +kernel
theorem f_86_4 : decode (mB 86) 4 = .ok (.iload_n 0, 1) := by decide +kernel
theorem f_86_5 : decode (mB 86) 5 = .ok (.sipush 255, 3) := by decide +kernel
theorem f_86_8 : decode (mB 86) 8 = .ok (.if_icmp .gt 7, 3) := by decide +kernel
theorem f_86_11 : decode (mB 86) 11 = .ok (.iconst 1, 1) := by decide +kernel
theorem f_86_12 : decode (mB 86) 12 = .ok (.goto 4, 3) := by decide +kernel
theorem f_86_15 : decode (mB 86) 15 = .ok (.iconst 0, 1) := by decide +kernel
theorem f_86_16 : decode (mB 86) 16 = .ok (.ireturn, 1) := by decide +kernel
theorem f_87_0 : decode (mB 87) 0 = .ok (.iload_n 1, 1) := by decide +kernel
theorem f_87_1 : decode (mB 87) 1 = .ok (.i2b, 1) := by decide +kernel
theorem f_87_2 : decode (mB 87) 2 = .ok (.istore 4, 2) := by decide +kernel
theorem f_87_4 : decode (mB 87) 4 = .ok (.iload_n 2, 1) := by decide +kernel
theorem f_87_5 : decode (mB 87) 5 = .ok (.istore 5, 2) := by decide +kernel
theorem f_87_7 : decode (mB 87) 7 = .ok (.iload 5, 2) := by decide +kernel
theorem f_87_9 : decode (mB 87) 9 = .ok (.iload_n 3, 1) := by decide +kernel
theorem f_87_10 : decode (mB 87) 10 = .ok (.if_icmp .ge 21, 3) := by decide +kernel
theorem f_87_13 : decode (mB 87) 13 = .ok (.aload_n 0, 1) := by decide +kernel
theorem f_87_14 : decode (mB 87) 14 = .ok (.iload 5, 2) := by decide +kernel
theorem f_87_16 : decode (mB 87) 16 = .ok (.baload, 1) := by decide +kernel
theorem f_87_17 : decode (mB 87) 17 = .ok (.iload 4, 2) := by decide +kernel
theorem f_87_19 : decode (mB 87) 19 = .ok (.if_icmp .ne 6, 3) := by decide +kernel
theorem f_87_22 : decode (mB 87) 22 = .ok (.iload 5, 2) := by decide +kernel
theorem f_87_24 : decode (mB 87) 24 = .ok (.ireturn, 1) := by decide +kernel
theorem f_87_25 : decode (mB 87) 25 = .ok (.iinc 5 1, 3) := by decide +kernel
theorem f_87_28 : decode (mB 87) 28 = .ok (.goto (-21), 3) := by decide +kernel
theorem f_87_31 : decode (mB 87) 31 = .ok (.iconst (-1), 1) := by decide +kernel
theorem f_87_32 : decode (mB 87) 32 = .ok (.ireturn, 1) := by decide +kernel
theorem f_98_0 : decode (mB 98) 0 = .ok (.aload_n 0, 1) := by decide +kernel
theorem f_98_1 : decode (mB 98) 1 = .ok (.getfield 19, 3) := by decide +kernel
theorem f_98_4 : decode (mB 98) 4 = .ok (.aload_n 0, 1) := by decide +kernel
theorem f_98_5 : decode (mB 98) 5 = .ok (.getfield 28, 3) := by decide +kernel
theorem f_98_8 : decode (mB 98) 8 = .ok (.iaload, 1) := by decide +kernel
theorem f_98_9 : decode (mB 98) 9 = .ok (.iload_n 1, 1) := by decide +kernel
theorem f_98_10 : decode (mB 98) 10 = .ok (.if_icmp .ne 14, 3) := by decide +kernel
theorem f_98_13 : decode (mB 98) 13 = .ok (.aload_n 0, 1) := by decide +kernel
theorem f_98_14 : decode (mB 98) 14 = .ok (.getfield 28, 3) := by decide +kernel
theorem f_98_17 : decode (mB 98) 17 = .ok (.aload_n 0, 1) := by decide +kernel
theorem f_98_18 : decode (mB 98) 18 = .ok (.getfield 25, 3) := by decide +kernel
theorem f_98_21 : decode (mB 98) 21 = .ok (.if_icmp .lt 5, 3) := by decide +kernel
theorem f_98_24 : decode (mB 98) 24 = .ok (.iconst 0, 1) := by decide +kernel
theorem f_98_25 : decode (mB 98) 25 = .ok (.ireturn, 1) := by decide +kernel
theorem f_98_26 : decode (mB 98) 26 = .ok (.aload_n 0, 1) := by decide +kernel
theorem f_98_27 : decode (mB 98) 27 = .ok (.dup, 1) := by decide +kernel
theorem f_98_28 : decode (mB 98) 28 = .ok (.getfield 28, 3) := by decide +kernel
theorem f_98_31 : decode (mB 98) 31 = .ok (.iconst 1, 1) := by decide +kernel
theorem f_98_32 : decode (mB 98) 32 = .ok (.iadd, 1) := by decide +kernel
theorem f_98_33 : decode (mB 98) 33 = .ok (.putfield 28, 3) := by decide +kernel
theorem f_98_36 : decode (mB 98) 36 = .ok (.iconst 1, 1) := by decide +kernel
theorem f_98_37 : decode (mB 98) 37 = .ok (.ireturn, 1) := by decide +kernel
theorem f_99_0 : decode (mB 99) 0 = .ok (.aload_n 0, 1) := by decide +kernel
theorem f_99_1 : decode (mB 99) 1 = .ok (.iload_n 1, 1) := by decide +kernel
theorem f_99_2 : decode (mB 99) 2 = .ok (.invokevirtual 101, 3) := by decide +kernel
theorem f_99_5 : decode (mB 99) 5 = .ok (.istore_n 2, 1) := by decide +kernel
theorem f_99_6 : decode (mB 99) 6 = .ok (.iconst 0, 1) := by decide +kernel
theorem f_99_7 : decode (mB 99) 7 = .ok (.istore_n 3, 1) := by decide +kernel
theorem f_99_8 : decode (mB 99) 8 = .ok (.iload_n 3, 1) := by decide +kernel
theorem f_99_9 : decode (mB 99) 9 = .ok (.sipush 200, 3) := by decide +kernel
theorem f_99_12 : decode (mB 99) 12 = .ok (.if_icmp .ge 35, 3) := by decide +kernel
theorem f_99_15 : decode (mB 99) 15 = .ok (.iload_n 2, 1) := by decide +kernel
theorem f_99_16 : decode (mB 99) 16 = .ok (.ifCond .eq 31, 3) := by decide +kernel
theorem f_99_19 : decode (mB 99) 19 = .ok (.aload_n 0, 1) := by decide +kernel
theorem f_99_20 : decode (mB 99) 20 = .ok (.bipush 14, 2) := by decide +kernel
theorem f_99_22 : decode (mB 99) 22 = .ok (.invokevirtual 43, 3) := by decide +kernel
theorem f_99_25 : decode (mB 99) 25 = .ok (.ifCond .eq 22, 3) := by decide +kernel
theorem f_99_28 : decode (mB 99) 28 = .ok (.aload_n 0, 1) := by decide +kernel
theorem f_99_29 : decode (mB 99) 29 = .ok (.iload_n 1, 1) := by decide +kernel
theorem f_99_30 : decode (mB 99) 30 = .ok (.invokevirtual 101, 3) := by decide +kernel
theorem f_99_33 : decode (mB 99) 33 = .ok (.istore_n 2, 1) := by decide +kernel
theorem f_99_34 : decode (mB 99) 34 = .ok (.aload_n 0, 1) := by decide +kernel
theorem f_99_35 : decode (mB 99) 35 = .ok (.sipush 20014, 3) := by decide +kernel
theorem f_99_38 : decode (mB 99) 38 = .ok (.invokevirtual 104, 3) := by decide +kernel
theorem f_99_41 : decode (mB 99) 41 = .ok (.iinc 3 1, 3) := by decide +kernel
theorem f_99_44 : decode (mB 99) 44 = .ok (.goto (-36), 3) := by decide +kernel
theorem f_99_47 : decode (mB 99) 47 = .ok (.iload_n 2, 1) := by decide +kernel
theorem f_99_48 : decode (mB 99) 48 = .ok (.ireturn, 1) := by decide +kernel
theorem f_100_0 : decode (mB 100) 0 = .ok (.aload_n 0, 1) := by decide +kernel
theorem f_100_1 : decode (mB 100) 1 = .ok (.iload_n 1, 1) := by decide +kernel
theorem f_100_2 : decode (mB 100) 2 = .ok (.invokevirtual 108, 3) := by decide +kernel
theorem f_100_5 : decode (mB 100) 5 = .ok (.istore_n 2, 1) := by decide +kernel
theorem f_100_6 : decode (mB 100) 6 = .ok (.iconst 0, 1) := by decide +kernel
theorem f_100_7 : decode (mB 100) 7 = .ok (.istore_n 3, 1) := by decide +kernel
theorem f_100_8 : decode (mB 100) 8 = .ok (.iload_n 3, 1) := by decide +kernel
theorem f_100_9 : decode (mB 100) 9 = .ok (.sipush 200, 3) := by decide +kernel
theorem f_100_12 : decode (mB 100) 12 = .ok (.if_icmp .ge 35, 3) := by decide +kernel
theorem f_100_15 : decode (mB 100) 15 = .ok (.iload_n 2, 1) := by decide +kernel
theorem f_100_16 : decode (mB 100) 16 = .ok (.ifCond .eq 31, 3) := by decide +kernel
theorem f_100_19 : decode (mB 100) 19 = .ok (.aload_n 0, 1) := by decide +kernel
theorem f_100_20 : decode (mB 100) 20 = .ok (.bipush 15, 2) := by decide +kernel
theorem f_100_22 : decode (mB 100) 22 = .ok (.invokevirtual 43, 3) := by decide +kernel
theorem f_100_25 : decode (mB 100) 25 = .ok (.ifCond .eq 22, 3) := by decide +kernel
theorem f_100_28 : decode (mB 100) 28 = .ok (.aload_n 0, 1) := by decide +kernel
theorem f_100_29 : decode (mB 100) 29 = .ok (.iload_n 1, 1) := by decide +kernel
theorem f_100_30 : decode (mB 100) 30 = .ok (.invokevirtual 108, 3) := by decide +kernel
theorem f_100_33 : decode (mB 100) 33 = .ok (.istore_n 2, 1) := by decide +kernel
theorem f_100_34 : decode (mB 100) 34 = .ok (.aload_n 0, 1) := by decide +kernel
theorem f_100_35 : decode (mB 100) 35 = .ok (.sipush 20015, 3) := by decide +kernel
theorem f_100_38 : decode (mB 100) 38 = .ok (.invokevirtual 104, 3) := by decide +kernel
theorem f_100_41 : decode (mB 100) 41 = .ok (.iinc 3 1, 3) := by decide +kernel
theorem f_100_44 : decode (mB 100) 44 = .ok (.goto (-36), 3) := by decide +kernel
theorem f_100_47 : decode (mB 100) 47 = .ok (.iload_n 2, 1) := by decide +kernel
theorem f_100_48 : decode (mB 100) 48 = .ok (.ireturn, 1) := by decide +kernel
theorem f_101_0 : decode (mB 101) 0 = .ok (.aload_n 0, 1) := by decide +kernel
theorem f_101_1 : decode (mB 101) 1 = .ok (.getfield 19, 3) := by decide +kernel
theorem f_101_4 : decode (mB 101) 4 = .ok (.aload_n 0, 1) := by decide +kernel
theorem f_101_5 : decode (mB 101) 5 = .ok (.getfield 28, 3) := by decide +kernel
theorem f_101_8 : decode (mB 101) 8 = .ok (.iaload, 1) := by decide +kernel
theorem f_101_9 : decode (mB 101) 9 = .ok (.bipush 16, 2) := by decide +kernel
theorem f_101_11 : decode (mB 101) 11 = .ok (.if_icmp .ne 42, 3) := by decide +kernel
theorem f_101_14 : decode (mB 101) 14 = .ok (.iload_n 1, 1) := by decide +kernel
theorem f_101_15 : decode (mB 101) 15 = .ok (.iconst 4, 1) := by decide +kernel
theorem f_101_16 : decode (mB 101) 16 = .ok (.if_icmp .ge 26, 3) := by decide +kernel
theorem f_101_19 : decode (mB 101) 19 = .ok (.aload_n 0, 1) := by decide +kernel
theorem f_101_20 : decode (mB 101) 20 = .ok (.bipush 16, 2) := by decide +kernel
theorem f_101_22 : decode (mB 101) 22 = .ok (.invokevirtual 43, 3) := by decide +kernel
theorem f_101_25 : decode (mB 101) 25 = .ok (.ifCond .eq 17, 3) := by decide +kernel
theorem f_101_28 : decode (mB 101) 28 = .ok (.aload_n 0, 1) := by decide +kernel
theorem f_101_29 : decode (mB 101) 29 = .ok (.iload_n 1, 1) := by decide +kernel
theorem f_101_30 : decode (mB 101) 30 = .ok (.iconst 1, 1) := by decide +kernel
theorem f_101_31 : decode (mB 101) 31 = .ok (.iadd, 1) := by decide +kernel
theorem f_101_32 : decode (mB 101) 32 = .ok (.invokevirtual 108, 3) := by decide +kernel
theorem f_101_35 : decode (mB 101) 35 = .ok (.ifCond .eq 7, 3) := by decide +kernel
theorem f_101_38 : decode (mB 101) 38 = .ok (.iconst 1, 1) := by decide +kernel
theorem f_101_39 : decode (mB 101) 39 = .ok (.goto 4, 3) := by decide +kernel
theorem f_101_42 : decode (mB 101) 42 = .ok (.iconst 0, 1) := by decide +kernel
theorem f_101_43 : decode (mB 101) 43 = .ok (.istore_n 2, 1) := by decide +kernel
theorem f_101_44 : decode (mB 101) 44 = .ok (.aload_n 0, 1) := by decide +kernel
theorem f_101_45 : decode (mB 101) 45 = .ok (.sipush 20016, 3) := by decide +kernel
theorem f_101_48 : decode (mB 101) 48 = .ok (.invokevirtual 104, 3) := by decide +kernel
theorem f_101_51 : decode (mB 101) 51 = .ok (.iload_n 2, 1) := by decide +kernel
theorem f_101_52 : decode (mB 101) 52 = .ok (.ireturn, 1) := by decide +kernel
theorem f_101_53 : decode (mB 101) 53 = .ok (.aload_n 0, 1) := by decide +kernel
theorem f_101_54 : decode (mB 101) 54 = .ok (.iload_n 1, 1) := by decide +kernel
theorem f_101_55 : decode (mB 101) 55 = .ok (.invokevirtual 111, 3) := by decide +kernel
theorem f_101_58 : decode (mB 101) 58 = .ok (.ifCond .ne 5, 3) := by decide +kernel
theorem f_101_61 : decode (mB 101) 61 = .ok (.iconst 0, 1) := by decide +kernel
theorem f_101_62 : decode (mB 101) 62 = .ok (.ireturn, 1) := by decide +kernel
theorem f_101_63 : decode (mB 101) 63 = .ok (.aload_n 0, 1) := by decide +kernel
theorem f_101_64 : decode (mB 101) 64 = .ok (.getfield 19, 3) := by decide +kernel
theorem f_101_67 : decode (mB 101) 67 = .ok (.aload_n 0, 1) := by decide +kernel
theorem f_101_68 : decode (mB 101) 68 = .ok (.getfield 28, 3) := by decide +kernel
theorem f_101_71 : decode (mB 101) 71 = .ok (.iaload, 1) := by decide +kernel
theorem f_101_72 : decode (mB 101) 72 = .ok (.istore_n 2, 1) := by decide +kernel
theorem f_101_73 : decode (mB 101) 73 = .ok (.iload_n 2, 1) := by decide +kernel
theorem f_101_74 : decode (mB 101) 74 = .ok (.bipush 22, 2) := by decide +kernel
theorem f_101_76 : decode (mB 101) 76 = .ok (.if_icmp .eq 11, 3) := by decide +kernel
theorem f_101_79 : decode (mB 101) 79 = .ok (.iload_n 2, 1) := by decide +kernel
theorem f_101_80 : decode (mB 101) 80 = .ok (.bipush 23, 2) := by decide +kernel
theorem f_101_82 : decode (mB 101) 82 = .ok (.if_icmp .eq 5, 3) := by decide +kernel
theorem f_101_85 : decode (mB 101) 85 = .ok (.iconst 1, 1) := by decide +kernel
theorem f_101_86 : decode (mB 101) 86 = .ok (.ireturn, 1) := by decide +kernel
theorem f_101_87 : decode (mB 101) 87 = .ok (.aload_n 0, 1) := by decide +kernel
theorem f_101_88 : decode (mB 101) 88 = .ok (.iload_n 2, 1) := by decide +kernel
theorem f_101_89 : decode (mB 101) 89 = .ok (.invokevirtual 43, 3) := by decide +kernel
theorem f_101_92 : decode (mB 101) 92 = .ok (.ifCond .eq 15, 3) := by decide +kernel
theorem f_101_95 : decode (mB 101) 95 = .ok (.aload_n 0, 1) := by decide +kernel
theorem f_101_96 : decode (mB 101) 96 = .ok (.iload_n 1, 1) := by decide +kernel
theorem f_101_97 : decode (mB 101) 97 = .ok (.invokevirtual 111, 3) := by decide +kernel
theorem f_101_100 : decode (mB 101) 100 = .ok (.ifCond .eq 7, 3) := by decide +kernel
theorem f_101_103 : decode (mB 101) 103 = .ok (.iconst 1, 1) := by decide +kernel
theorem f_101_104 : decode (mB 101) 104 = .ok (.goto 4, 3) := by decide +kernel
theorem f_101_107 : decode (mB 101) 107 = .ok (.iconst 0, 1) := by decide +kernel
theorem f_101_108 : decode (mB 101) 108 = .ok (.istore_n 3, 1) := by decide +kernel
theorem f_101_109 : decode (mB 101) 109 = .ok (.aload_n 0, 1) := by decide +kernel
theorem f_101_110 : decode (mB 101) 110 = .ok (.sipush 20000, 3) := by decide +kernel
theorem f_101_113 : decode (mB 101) 113 = .ok (.iload_n 2, 1) := by decide +kernel
theorem f_101_114 : decode (mB 101) 114 = .ok (.iadd, 1) := by decide +kernel
theorem f_101_115 : decode (mB 101) 115 = .ok (.invokevirtual 104, 3) := by decide +kernel
theorem f_101_118 : decode (mB 101) 118 = .ok (.iload_n 3, 1) := by decide +kernel
theorem f_101_119 : decode (mB 101) 119 = .ok (.ireturn, 1) := by decide +kernel
theorem f_102_0 : decode (mB 102) 0 = .ok (.aload_n 0, 1) := by decide +kernel
theorem f_102_1 : decode (mB 102) 1 = .ok (.getfield 34, 3) := by decide +kernel
theorem f_102_4 : decode (mB 102) 4 = .ok (.sipush 200, 3) := by decide +kernel
theorem f_102_7 : decode (mB 102) 7 = .ok (.if_icmp .ge 23, 3) := by decide +kernel
theorem f_102_10 : decode (mB 102) 10 = .ok (.aload_n 0, 1) := by decide +kernel
theorem f_102_11 : decode (mB 102) 11 = .ok (.getfield 31, 3) := by decide +kernel
theorem f_102_14 : decode (mB 102) 14 = .ok (.aload_n 0, 1) := by decide +kernel
theorem f_102_15 : decode (mB 102) 15 = .ok (.getfield 34, 3) := by decide +kernel
theorem f_102_18 : decode (mB 102) 18 = .ok (.iload_n 1, 1) := by decide +kernel
theorem f_102_19 : decode (mB 102) 19 = .ok (.iastore, 1) := by decide +kernel
theorem f_102_20 : decode (mB 102) 20 = .ok (.aload_n 0, 1) := by decide +kernel
theorem f_102_21 : decode (mB 102) 21 = .ok (.dup, 1) := by decide +kernel
theorem f_102_22 : decode (mB 102) 22 = .ok (.getfield 34, 3) := by decide +kernel
theorem f_102_25 : decode (mB 102) 25 = .ok (.iconst 1, 1) := by decide +kernel
theorem f_102_26 : decode (mB 102) 26 = .ok (.iadd, 1) := by decide +kernel
theorem f_102_27 : decode (mB 102) 27 = .ok (.putfield 34, 3) := by decide +kernel
theorem f_102_30 : decode (mB 102) 30 = .ok (.return_, 1) := by decide +kernel
theorem f_103_0 : decode (mB 103) 0 = .ok (.aload_n 0, 1) := by decide +kernel
theorem f_103_1 : decode (mB 103) 1 = .ok (.iload_n 1, 1) := by decide +kernel
theorem f_103_2 : decode (mB 103) 2 = .ok (.invokevirtual 114, 3) := by decide +kernel
theorem f_103_5 : decode (mB 103) 5 = .ok (.istore_n 2, 1) := by decide +kernel
theorem f_103_6 : decode (mB 103) 6 = .ok (.iconst 0, 1) := by decide +kernel
theorem f_103_7 : decode (mB 103) 7 = .ok (.istore_n 3, 1) := by decide +kernel
theorem f_103_8 : decode (mB 103) 8 = .ok (.iload_n 3, 1) := by decide +kernel
theorem f_103_9 : decode (mB 103) 9 = .ok (.sipush 200, 3) := by decide +kernel
theorem f_103_12 : decode (mB 103) 12 = .ok (.if_icmp .ge 74, 3) := by decide +kernel
theorem f_103_15 : decode (mB 103) 15 = .ok (.iload_n 2, 1) := by decide +kernel
theorem f_103_16 : decode (mB 103) 16 = .ok (.ifCond .eq 70, 3) := by decide +kernel
theorem f_103_19 : decode (mB 103) 19 = .ok (.aload_n 0, 1) := by decide +kernel
theorem f_103_20 : decode (mB 103) 20 = .ok (.getfield 19, 3) := by decide +kernel
theorem f_103_23 : decode (mB 103) 23 = .ok (.aload_n 0, 1) := by decide +kernel
theorem f_103_24 : decode (mB 103) 24 = .ok (.getfield 28, 3) := by decide +kernel
theorem f_103_27 : decode (mB 103) 27 = .ok (.iaload, 1) := by decide +kernel
theorem f_103_28 : decode (mB 103) 28 = .ok (.istore 4, 2) := by decide +kernel
theorem f_103_30 : decode (mB 103) 30 = .ok (.iload 4, 2) := by decide +kernel
theorem f_103_32 : decode (mB 103) 32 = .ok (.bipush 20, 2) := by decide +kernel
theorem f_103_34 : decode (mB 103) 34 = .ok (.if_icmp .eq 13, 3) := by decide +kernel
theorem f_103_37 : decode (mB 103) 37 = .ok (.iload 4, 2) := by decide +kernel
theorem f_103_39 : decode (mB 103) 39 = .ok (.bipush 21, 2) := by decide +kernel
theorem f_103_41 : decode (mB 103) 41 = .ok (.if_icmp .eq 6, 3) := by decide +kernel
theorem f_103_44 : decode (mB 103) 44 = .ok (.goto 42, 3) := by decide +kernel
theorem f_103_47 : decode (mB 103) 47 = .ok (.aload_n 0, 1) := by decide +kernel
theorem f_103_48 : decode (mB 103) 48 = .ok (.iload 4, 2) := by decide +kernel
theorem f_103_50 : decode (mB 103) 50 = .ok (.invokevirtual 43, 3) := by decide +kernel
theorem f_103_53 : decode (mB 103) 53 = .ok (.ifCond .eq 15, 3) := by decide +kernel
theorem f_103_56 : decode (mB 103) 56 = .ok (.aload_n 0, 1) := by decide +kernel
theorem f_103_57 : decode (mB 103) 57 = .ok (.iload_n 1, 1) := by decide +kernel
theorem f_103_58 : decode (mB 103) 58 = .ok (.invokevirtual 114, 3) := by decide +kernel
theorem f_103_61 : decode (mB 103) 61 = .ok (.ifCond .eq 7, 3) := by decide +kernel
theorem f_103_64 : decode (mB 103) 64 = .ok (.iconst 1, 1) := by decide +kernel
theorem f_103_65 : decode (mB 103) 65 = .ok (.goto 4, 3) := by decide +kernel
theorem f_103_68 : decode (mB 103) 68 = .ok (.iconst 0, 1) := by decide +kernel
theorem f_103_69 : decode (mB 103) 69 = .ok (.istore_n 2, 1) := by decide +kernel
theorem f_103_70 : decode (mB 103) 70 = .ok (.aload_n 0, 1) := by decide +kernel
theorem f_103_71 : decode (mB 103) 71 = .ok (.sipush 20000, 3) := by decide +kernel
theorem f_103_74 : decode (mB 103) 74 = .ok (.iload 4, 2) := by decide +kernel
theorem f_103_76 : decode (mB 103) 76 = .ok (.iadd, 1) := by decide +kernel
theorem f_103_77 : decode (mB 103) 77 = .ok (.invokevirtual 104, 3) := by decide +kernel
theorem f_103_80 : decode (mB 103) 80 = .ok (.iinc 3 1, 3) := by decide +kernel
theorem f_103_83 : decode (mB 103) 83 = .ok (.goto (-75), 3) := by decide +kernel
theorem f_103_86 : decode (mB 103) 86 = .ok (.iload_n 2, 1) := by decide +kernel
theorem f_103_87 : decode (mB 103) 87 = .ok (.ireturn, 1) := by decide +kernel
theorem f_104_0 : decode (mB 104) 0 = .ok (.aload_n 0, 1) := by decide +kernel
theorem f_104_1 : decode (mB 104) 1 = .ok (.getfield 19, 3) := by decide +kernel
theorem f_104_4 : decode (mB 104) 4 = .ok (.aload_n 0, 1) := by decide +kernel
theorem f_104_5 : decode (mB 104) 5 = .ok (.getfield 28, 3) := by decide +kernel
theorem f_104_8 : decode (mB 104) 8 = .ok (.iaload, 1) := by decide +kernel
theorem f_104_9 : decode (mB 104) 9 = .ok (.istore_n 2, 1) := by decide +kernel
theorem f_104_10 : decode (mB 104) 10 = .ok (.iload_n 2, 1) := by decide +kernel
theorem f_104_11 : decode (mB 104) 11 = .ok (.bipush 26, 2) := by decide +kernel
theorem f_104_13 : decode (mB 104) 13 = .ok (.if_icmp .lt 17, 3) := by decide +kernel
theorem f_104_16 : decode (mB 104) 16 = .ok (.aload_n 0, 1) := by decide +kernel
theorem f_104_17 : decode (mB 104) 17 = .ok (.iload_n 2, 1) := by decide +kernel
theorem f_104_18 : decode (mB 104) 18 = .ok (.bipush 26, 2) := by decide +kernel
theorem f_104_20 : decode (mB 104) 20 = .ok (.isub, 1) := by decide +kernel
theorem f_104_21 : decode (mB 104) 21 = .ok (.invokevirtual 104, 3) := by decide +kernel
theorem f_104_24 : decode (mB 104) 24 = .ok (.aload_n 0, 1) := by decide +kernel
theorem f_104_25 : decode (mB 104) 25 = .ok (.iload_n 2, 1) := by decide +kernel
theorem f_104_26 : decode (mB 104) 26 = .ok (.invokevirtual 43, 3) := by decide +kernel
theorem f_104_29 : decode (mB 104) 29 = .ok (.ireturn, 1) := by decide +kernel
theorem f_104_30 : decode (mB 104) 30 = .ok (.iload_n 2, 1) := by decide +kernel
theorem f_104_31 : decode (mB 104) 31 = .ok (.bipush 10, 2) := by decide +kernel
theorem f_104_33 : decode (mB 104) 33 = .ok (.if_icmp .gt 18, 3) := by decide +kernel
theorem f_104_36 : decode (mB 104) 36 = .ok (.aload_n 0, 1) := by decide +kernel
theorem f_104_37 : decode (mB 104) 37 = .ok (.sipush 10000, 3) := by decide +kernel
theorem f_104_40 : decode (mB 104) 40 = .ok (.iload_n 2, 1) := by decide +kernel
theorem f_104_41 : decode (mB 104) 41 = .ok (.iadd, 1) := by decide +kernel
theorem f_104_42 : decode (mB 104) 42 = .ok (.invokevirtual 104, 3) := by decide +kernel
theorem f_104_45 : decode (mB 104) 45 = .ok (.aload_n 0, 1) := by decide +kernel
theorem f_104_46 : decode (mB 104) 46 = .ok (.iload_n 2, 1) := by decide +kernel
theorem f_104_47 : decode (mB 104) 47 = .ok (.invokevirtual 43, 3) := by decide +kernel
theorem f_104_50 : decode (mB 104) 50 = .ok (.ireturn, 1) := by decide +kernel
theorem f_104_51 : decode (mB 104) 51 = .ok (.iload_n 2, 1) := by decide +kernel
theorem f_104_52 : decode (mB 104) 52 = .ok (.bipush 17, 2) := by decide +kernel
theorem f_104_54 : decode (mB 104) 54 = .ok (.if_icmp .ne 40, 3) := by decide +kernel
theorem f_104_57 : decode (mB 104) 57 = .ok (.iload_n 1, 1) := by decide +kernel
theorem f_104_58 : decode (mB 104) 58 = .ok (.iconst 4, 1) := by decide +kernel
theorem f_104_59 : decode (mB 104) 59 = .ok (.if_icmp .ge 35, 3) := by decide +kernel
theorem f_104_62 : decode (mB 104) 62 = .ok (.aload_n 0, 1) := by decide +kernel
theorem f_104_63 : decode (mB 104) 63 = .ok (.bipush 17, 2) := by decide +kernel
theorem f_104_65 : decode (mB 104) 65 = .ok (.invokevirtual 43, 3) := by decide +kernel
theorem f_104_68 : decode (mB 104) 68 = .ok (.ifCond .eq 26, 3) := by decide +kernel
theorem f_104_71 : decode (mB 104) 71 = .ok (.aload_n 0, 1) := by decide +kernel
theorem f_104_72 : decode (mB 104) 72 = .ok (.iload_n 1, 1) := by decide +kernel
theorem f_104_73 : decode (mB 104) 73 = .ok (.iconst 1, 1) := by decide +kernel
theorem f_104_74 : decode (mB 104) 74 = .ok (.iadd, 1) := by decide +kernel
theorem f_104_75 : decode (mB 104) 75 = .ok (.invokevirtual 47, 3) := by decide +kernel
theorem f_104_78 : decode (mB 104) 78 = .ok (.ifCond .eq 16, 3) := by decide +kernel
theorem f_104_81 : decode (mB 104) 81 = .ok (.aload_n 0, 1) := by decide +kernel
theorem f_104_82 : decode (mB 104) 82 = .ok (.bipush 18, 2) := by decide +kernel
theorem f_104_84 : decode (mB 104) 84 = .ok (.invokevirtual 43, 3) := by decide +kernel
theorem f_104_87 : decode (mB 104) 87 = .ok (.ifCond .eq 7, 3) := by decide +kernel
theorem f_104_90 : decode (mB 104) 90 = .ok (.iconst 1, 1) := by decide +kernel
theorem f_104_91 : decode (mB 104) 91 = .ok (.goto 4, 3) := by decide +kernel
theorem f_104_94 : decode (mB 104) 94 = .ok (.iconst 0, 1) := by decide +kernel
theorem f_104_95 : decode (mB 104) 95 = .ok (.ireturn, 1) := by decide +kernel
theorem f_105_0 : decode (mB 105) 0 = .ok (.new 50, 3) := by decide +kernel
theorem f_105_3 : decode (mB 105) 3 = .ok (.dup, 1) := by decide +kernel
theorem f_105_4 : decode (mB 105) 4 = .ok (.aload_n 0, 1) := by decide +kernel
theorem f_105_5 : decode (mB 105) 5 = .ok (.getfield 31, 3) := by decide +kernel
theorem f_105_8 : decode (mB 105) 8 = .ok (.aload_n 0, 1) := by decide +kernel
theorem f_105_9 : decode (mB 105) 9 = .ok (.getfield 34, 3) := by decide +kernel
theorem f_105_12 : decode (mB 105) 12 = .ok (.invokestatic 52, 3) := by decide +kernel
theorem f_105_15 : decode (mB 105) 15 = .ok (.aload_n 0, 1) := by decide +kernel
theorem f_105_16 : decode (mB 105) 16 = .ok (.getfield 37, 3) := by decide +kernel
theorem f_105_19 : decode (mB 105) 19 = .ok (.iconst 1, 1) := by decide +kernel
theorem f_105_20 : decode (mB 105) 20 = .ok (.iaload, 1) := by decide +kernel
theorem f_105_21 : decode (mB 105) 21 = .ok (.aload_n 0, 1) := by decide +kernel
theorem f_105_22 : decode (mB 105) 22 = .ok (.getfield 37, 3) := by decide +kernel
theorem f_105_25 : decode (mB 105) 25 = .ok (.iconst 2, 1) := by decide +kernel
theorem f_105_26 : decode (mB 105) 26 = .ok (.iaload, 1) := by decide +kernel
theorem f_105_27 : decode (mB 105) 27 = .ok (.invokespecial 58, 3) := by decide +kernel
theorem f_105_30 : decode (mB 105) 30 = .ok (.areturn, 1) := by decide +kernel
theorem f_106_0 : decode (mB 106) 0 = .ok (.iload_n 1, 1) := by decide +kernel
theorem f_106_1 : decode (mB 106) 1 = .ok (.aload_n 0, 1) := by decide +kernel
theorem f_106_2 : decode (mB 106) 2 = .ok (.arraylength, 1) := by decide +kernel
theorem f_106_3 : decode (mB 106) 3 = .ok (.if_icmp .ne 11, 3) := by decide +kernel
theorem f_106_6 : decode (mB 106) 6 = .ok (.aload_n 0, 1) := by decide +kernel
theorem f_106_7 : decode (mB 106) 7 = .ok (.invokevirtual 316, 3) := by decide +kernel
theorem f_106_10 : decode (mB 106) 10 = .ok (.checkcast 317, 3) := by decide +kernel
theorem f_106_13 : decode (mB 106) 13 = .ok (.areturn, 1) := by decide +kernel
theorem f_106_14 : decode (mB 106) 14 = .ok (.iload_n 1, 1) := by decide +kernel
theorem f_106_15 : decode (mB 106) 15 = .ok (.newarray .int, 2) := by decide +kernel
theorem f_106_17 : decode (mB 106) 17 = .ok (.astore_n 2, 1) := by decide +kernel
theorem f_106_18 : decode (mB 106) 18 = .ok (.aload_n 0, 1) := by decide +kernel
theorem f_106_19 : decode (mB 106) 19 = .ok (.iconst 0, 1) := by decide +kernel
theorem f_106_20 : decode (mB 106) 20 = .ok (.aload_n 2, 1) := by decide +kernel
theorem f_106_21 : decode (mB 106) 21 = .ok (.iconst 0, 1) := by decide +kernel
theorem f_106_22 : decode (mB 106) 22 = .ok (.aload_n 0, 1) := by decide +kernel
theorem f_106_23 : decode (mB 106) 23 = .ok (.arraylength, 1) := by decide +kernel
theorem f_106_24 : decode (mB 106) 24 = .ok (.iload_n 1, 1) := by decide +kernel
theorem f_106_25 : decode (mB 106) 25 = .ok (.invokestatic 304, 3) := by decide +kernel
theorem f_106_28 : decode (mB 106) 28 = .ok (.invokestatic 150, 3) := by decide +kernel
theorem f_106_31 : decode (mB 106) 31 = .ok (.aload_n 2, 1) := by decide +kernel
theorem f_106_32 : decode (mB 106) 32 = .ok (.areturn, 1) := by decide +kernel
theorem f_107_0 : decode (mB 107) 0 = .ok (.aload_n 0, 1) := by decide +kernel
theorem f_107_1 : decode (mB 107) 1 = .ok (.invokespecial 3, 3) := by decide +kernel
theorem f_107_4 : decode (mB 107) 4 = .ok (.aload_n 0, 1) := by decide +kernel
theorem f_107_5 : decode (mB 107) 5 = .ok (.aload_n 1, 1) := by decide +kernel
theorem f_107_6 : decode (mB 107) 6 = .ok (.putfield 9, 3) := by decide +kernel
theorem f_107_9 : decode (mB 107) 9 = .ok (.aload_n 0, 1) := by decide +kernel
theorem f_107_10 : decode (mB 107) 10 = .ok (.iload_n 2, 1) := by decide +kernel
theorem f_107_11 : decode (mB 107) 11 = .ok (.putfield 15, 3) := by decide +kernel
theorem f_107_14 : decode (mB 107) 14 = .ok (.aload_n 0, 1) := by decide +kernel
theorem f_107_15 : decode (mB 107) 15 = .ok (.iload_n 3, 1) := by decide +kernel
theorem f_107_16 : decode (mB 107) 16 = .ok (.putfield 19, 3) := by decide +kernel
theorem f_107_19 : decode (mB 107) 19 = .ok (.return_, 1) := by decide +kernel
theorem f_108_0 : decode (mB 108) 0 = .ok (.iload_n 1, 1) := by decide +kernel
theorem f_108_1 : decode (mB 108) 1 = .ok (.iconst 0, 1) := by decide +kernel
theorem f_108_2 : decode (mB 108) 2 = .ok (.iconst 4, 1) := by decide +kernel
theorem f_108_3 : decode (mB 108) 3 = .ok (.invokestatic 75, 3) := by decide +kernel
theorem f_108_6 : decode (mB 108) 6 = .ok (.ifCond .eq 17, 3) := by decide +kernel
theorem f_108_9 : decode (mB 108) 9 = .ok (.iload_n 2, 1) := by decide +kernel
theorem f_108_10 : decode (mB 108) 10 = .ok (.invokestatic 255, 3) := by decide +kernel
theorem f_108_13 : decode (mB 108) 13 = .ok (.ifCond .eq 10, 3) := by decide +kernel
theorem f_108_16 : decode (mB 108) 16 = .ok (.iload_n 3, 1) := by decide +kernel
theorem f_108_17 : decode (mB 108) 17 = .ok (.invokestatic 262, 3) := by decide +kernel
theorem f_108_20 : decode (mB 108) 20 = .ok (.ifCond .ne 10, 3) := by decide +kernel
theorem f_108_23 : decode (mB 108) 23 = .ok (.aload_n 0, 1) := by decide +kernel
theorem f_108_24 : decode (mB 108) 24 = .ok (.ldc 83, 2) := by decide +kernel
theorem f_108_26 : decode (mB 108) 26 = .ok (.invokevirtual 84, 3) := by decide +kernel
theorem f_108_29 : decode (mB 108) 29 = .ok (.ireturn, 1) := by decide +kernel
theorem f_108_30 : decode (mB 108) 30 = .ok (.aload_n 0, 1) := by decide +kernel
theorem f_108_31 : decode (mB 108) 31 = .ok (.getfield 10, 3) := by decide +kernel
theorem f_108_34 : decode (mB 108) 34 = .ok (.getfield 278, 3) := by decide +kernel
theorem f_108_37 : decode (mB 108) 37 = .ok (.iload_n 1, 1) := by decide +kernel
theorem f_108_38 : decode (mB 108) 38 = .ok (.aaload, 1) := by decide +kernel
theorem f_108_39 : decode (mB 108) 39 = .ok (.ifnonnull 10, 3) := by decide +kernel
theorem f_108_42 : decode (mB 108) 42 = .ok (.aload_n 0, 1) := by decide +kernel
theorem f_108_43 : decode (mB 108) 43 = .ok (.ldc 182, 2) := by decide +kernel
theorem f_108_45 : decode (mB 108) 45 = .ok (.invokevirtual 84, 3) := by decide +kernel
theorem f_108_48 : decode (mB 108) 48 = .ok (.ireturn, 1) := by decide +kernel
theorem f_108_49 : decode (mB 108) 49 = .ok (.aload_n 0, 1) := by decide +kernel
theorem f_108_50 : decode (mB 108) 50 = .ok (.getfield 10, 3) := by decide +kernel
theorem f_108_53 : decode (mB 108) 53 = .ok (.getfield 286, 3) := by decide +kernel
theorem f_108_56 : decode (mB 108) 56 = .ok (.bipush 12, 2) := by decide +kernel
theorem f_108_58 : decode (mB 108) 58 = .ok (.if_icmp .lt 10, 3) := by decide +kernel
theorem f_108_61 : decode (mB 108) 61 = .ok (.aload_n 0, 1) := by decide +kernel
theorem f_108_62 : decode (mB 108) 62 = .ok (.ldc 91, 2) := by decide +kernel
theorem f_108_64 : decode (mB 108) 64 = .ok (.invokevirtual 84, 3) := by decide +kernel
theorem f_108_67 : decode (mB 108) 67 = .ok (.ireturn, 1) := by decide +kernel
theorem f_108_68 : decode (mB 108) 68 = .ok (.aload_n 0, 1) := by decide +kernel
theorem f_108_69 : decode (mB 108) 69 = .ok (.getfield 10, 3) := by decide +kernel
theorem f_108_72 : decode (mB 108) 72 = .ok (.getfield 289, 3) := by decide +kernel
theorem f_108_75 : decode (mB 108) 75 = .ok (.aload_n 0, 1) := by decide +kernel
theorem f_108_76 : decode (mB 108) 76 = .ok (.getfield 10, 3) := by decide +kernel
theorem f_108_79 : decode (mB 108) 79 = .ok (.getfield 286, 3) := by decide +kernel
theorem f_108_82 : decode (mB 108) 82 = .ok (.aaload, 1) := by decide +kernel
theorem f_108_83 : decode (mB 108) 83 = .ok (.aload_n 0, 1) := by decide +kernel
theorem f_108_84 : decode (mB 108) 84 = .ok (.getfield 10, 3) := by decide +kernel
theorem f_108_87 : decode (mB 108) 87 = .ok (.getfield 278, 3) := by decide +kernel
theorem f_108_90 : decode (mB 108) 90 = .ok (.iload_n 1, 1) := by decide +kernel
theorem f_108_91 : decode (mB 108) 91 = .ok (.aaload, 1) := by decide +kernel
theorem f_108_92 : decode (mB 108) 92 = .ok (.iload_n 2, 1) := by decide +kernel
theorem f_108_93 : decode (mB 108) 93 = .ok (.iload_n 3, 1) := by decide +kernel
theorem f_108_94 : decode (mB 108) 94 = .ok (.invokevirtual 293, 3) := by decide +kernel
theorem f_108_97 : decode (mB 108) 97 = .ok (.aload_n 0, 1) := by decide +kernel
theorem f_108_98 : decode (mB 108) 98 = .ok (.getfield 10, 3) := by decide +kernel
theorem f_108_101 : decode (mB 108) 101 = .ok (.dup, 1) := by decide +kernel
theorem f_108_102 : decode (mB 108) 102 = .ok (.getfield 286, 3) := by decide +kernel
theorem f_108_105 : decode (mB 108) 105 = .ok (.dup_x1, 1) := by decide +kernel
theorem f_108_106 : decode (mB 108) 106 = .ok (.iconst 1, 1) := by decide +kernel
theorem f_108_107 : decode (mB 108) 107 = .ok (.iadd, 1) := by decide +kernel
theorem f_108_108 : decode (mB 108) 108 = .ok (.putfield 286, 3) := by decide +kernel
theorem f_108_111 : decode (mB 108) 111 = .ok (.ireturn, 1) := by decide +kernel
theorem f_109_0 : decode (mB 109) 0 = .ok (.aload_n 0, 1) := by decide +kernel
theorem f_109_1 : decode (mB 109) 1 = .ok (.aload_n 1, 1) := by decide +kernel
theorem f_109_2 : decode (mB 109) 2 = .ok (.putfield 7, 3) := by decide +kernel
theorem f_109_5 : decode (mB 109) 5 = .ok (.aload_n 0, 1) := by decide +kernel
theorem f_109_6 : decode (mB 109) 6 = .ok (.iload_n 2, 1) := by decide +kernel
theorem f_109_7 : decode (mB 109) 7 = .ok (.putfield 13, 3) := by decide +kernel
theorem f_109_10 : decode (mB 109) 10 = .ok (.aload_n 0, 1) := by decide +kernel
theorem f_109_11 : decode (mB 109) 11 = .ok (.iload_n 3, 1) := by decide +kernel
theorem f_109_12 : decode (mB 109) 12 = .ok (.putfield 17, 3) := by decide +kernel
theorem f_109_15 : decode (mB 109) 15 = .ok (.return_, 1) := by decide +kernel
theorem f_110_0 : decode (mB 110) 0 = .ok (.iload_n 1, 1) := by decide +kernel
theorem f_110_1 : decode (mB 110) 1 = .ok (.invokestatic 255, 3) := by decide +kernel
theorem f_110_4 : decode (mB 110) 4 = .ok (.ifCond .eq 10, 3) := by decide +kernel
theorem f_110_7 : decode (mB 110) 7 = .ok (.iload_n 2, 1) := by decide +kernel
theorem f_110_8 : decode (mB 110) 8 = .ok (.invokestatic 262, 3) := by decide +kernel
theorem f_110_11 : decode (mB 110) 11 = .ok (.ifCond .ne 10, 3) := by decide +kernel
theorem f_110_14 : decode (mB 110) 14 = .ok (.aload_n 0, 1) := by decide +kernel
theorem f_110_15 : decode (mB 110) 15 = .ok (.ldc 83, 2) := by decide +kernel
theorem f_110_17 : decode (mB 110) 17 = .ok (.invokevirtual 84, 3) := by decide +kernel
theorem f_110_20 : decode (mB 110) 20 = .ok (.ireturn, 1) := by decide +kernel
theorem f_110_21 : decode (mB 110) 21 = .ok (.aload_n 0, 1) := by decide +kernel
theorem f_110_22 : decode (mB 110) 22 = .ok (.getfield 10, 3) := by decide +kernel
theorem f_110_25 : decode (mB 110) 25 = .ok (.iload_n 1, 1) := by decide +kernel
theorem f_110_26 : decode (mB 110) 26 = .ok (.iload_n 2, 1) := by decide +kernel
theorem f_110_27 : decode (mB 110) 27 = .ok (.invokevirtual 298, 3) := by decide +kernel
theorem f_110_30 : decode (mB 110) 30 = .ok (.istore_n 3, 1) := by decide +kernel
theorem f_110_31 : decode (mB 110) 31 = .ok (.iload_n 3, 1) := by decide +kernel
theorem f_110_32 : decode (mB 110) 32 = .ok (.ifCond .lt 7, 3) := by decide +kernel
theorem f_110_35 : decode (mB 110) 35 = .ok (.iload_n 3, 1) := by decide +kernel
theorem f_110_36 : decode (mB 110) 36 = .ok (.goto 9, 3) := by decide +kernel
theorem f_110_39 : decode (mB 110) 39 = .ok (.aload_n 0, 1) := by decide +kernel
theorem f_110_40 : decode (mB 110) 40 = .ok (.ldc 182, 2) := by decide +kernel
theorem f_110_42 : decode (mB 110) 42 = .ok (.invokevirtual 84, 3) := by decide +kernel
theorem f_110_45 : decode (mB 110) 45 = .ok (.ireturn, 1) := by decide +kernel
theorem f_111_0 : decode (mB 111) 0 = .ok (.aload_n 0, 1) := by decide +kernel
theorem f_111_1 : decode (mB 111) 1 = .ok (.getfield 58, 3) := by decide +kernel
theorem f_111_4 : decode (mB 111) 4 = .ok (.iconst 1, 1) := by decide +kernel
theorem f_111_5 : decode (mB 111) 5 = .ok (.isub, 1) := by decide +kernel
theorem f_111_6 : decode (mB 111) 6 = .ok (.istore_n 3, 1) := by decide +kernel
theorem f_111_7 : decode (mB 111) 7 = .ok (.iload_n 3, 1) := by decide +kernel
theorem f_111_8 : decode (mB 111) 8 = .ok (.ifCond .lt 37, 3) := by decide +kernel
theorem f_111_11 : decode (mB 111) 11 = .ok (.aload_n 0, 1) := by decide +kernel
theorem f_111_12 : decode (mB 111) 12 = .ok (.getfield 31, 3) := by decide +kernel
theorem f_111_15 : decode (mB 111) 15 = .ok (.iload_n 3, 1) := by decide +kernel
theorem f_111_16 : decode (mB 111) 16 = .ok (.aaload, 1) := by decide +kernel
theorem f_111_17 : decode (mB 111) 17 = .ok (.getfield 94, 3) := by decide +kernel
theorem f_111_20 : decode (mB 111) 20 = .ok (.iload_n 1, 1) := by decide +kernel
theorem f_111_21 : decode (mB 111) 21 = .ok (.if_icmp .ne 18, 3) := by decide +kernel
theorem f_111_24 : decode (mB 111) 24 = .ok (.aload_n 0, 1) := by decide +kernel
theorem f_111_25 : decode (mB 111) 25 = .ok (.getfield 31, 3) := by decide +kernel
theorem f_111_28 : decode (mB 111) 28 = .ok (.iload_n 3, 1) := by decide +kernel
theorem f_111_29 : decode (mB 111) 29 = .ok (.aaload, 1) := by decide +kernel
theorem f_111_30 : decode (mB 111) 30 = .ok (.getfield 97, 3) := by decide +kernel
theorem f_111_33 : decode (mB 111) 33 = .ok (.iload_n 2, 1) := by decide +kernel
theorem f_111_34 : decode (mB 111) 34 = .ok (.if_icmp .gt 5, 3) := by decide +kernel
theorem f_111_37 : decode (mB 111) 37 = .ok (.iload_n 3, 1) := by decide +kernel
theorem f_111_38 : decode (mB 111) 38 = .ok (.ireturn, 1) := by decide +kernel
theorem f_111_39 : decode (mB 111) 39 = .ok (.iinc 3 (-1), 3) := by decide +kernel
theorem f_111_42 : decode (mB 111) 42 = .ok (.goto (-35), 3) := by decide +kernel
theorem f_111_45 : decode (mB 111) 45 = .ok (.iconst (-1), 1) := by decide +kernel
theorem f_111_46 : decode (mB 111) 46 = .ok (.ireturn, 1) := by decide +kernel
theorem f_112_0 : decode (mB 112) 0 = .ok (.aload_n 0, 1) := by decide +kernel
theorem f_112_1 : decode (mB 112) 1 = .ok (.iload_n 1, 1) := by decide +kernel
theorem f_112_2 : decode (mB 112) 2 = .ok (.iload_n 2, 1) := by decide +kernel
theorem f_112_3 : decode (mB 112) 3 = .ok (.iload_n 3, 1) := by decide +kernel
theorem f_112_4 : decode (mB 112) 4 = .ok (.invokevirtual 301, 3) := by decide +kernel
theorem f_112_7 : decode (mB 112) 7 = .ok (.ifCond .ne 10, 3) := by decide +kernel
theorem f_112_10 : decode (mB 112) 10 = .ok (.aload_n 0, 1) := by decide +kernel
theorem f_112_11 : decode (mB 112) 11 = .ok (.ldc 83, 2) := by decide +kernel
theorem f_112_13 : decode (mB 112) 13 = .ok (.invokevirtual 84, 3) := by decide +kernel
theorem f_112_16 : decode (mB 112) 16 = .ok (.ireturn, 1) := by decide +kernel
theorem f_112_17 : decode (mB 112) 17 = .ok (.aload_n 0, 1) := by decide +kernel
theorem f_112_18 : decode (mB 112) 18 = .ok (.getfield 24, 3) := by decide +kernel
theorem f_112_21 : decode (mB 112) 21 = .ok (.aload_n 0, 1) := by decide +kernel
theorem f_112_22 : decode (mB 112) 22 = .ok (.getfield 10, 3) := by decide +kernel
theorem f_112_25 : decode (mB 112) 25 = .ok (.getfield 206, 3) := by decide +kernel
theorem f_112_28 : decode (mB 112) 28 = .ok (.iload_n 1, 1) := by decide +kernel
theorem f_112_29 : decode (mB 112) 29 = .ok (.aaload, 1) := by decide +kernel
theorem f_112_30 : decode (mB 112) 30 = .ok (.iconst 0, 1) := by decide +kernel
theorem f_112_31 : decode (mB 112) 31 = .ok (.iload_n 2, 1) := by decide +kernel
theorem f_112_32 : decode (mB 112) 32 = .ok (.iload_n 3, 1) := by decide +kernel
theorem f_112_33 : decode (mB 112) 33 = .ok (.invokevirtual 304, 3) := by decide +kernel
theorem f_112_36 : decode (mB 112) 36 = .ok (.ireturn, 1) := by decide +kernel
theorem f_113_0 : decode (mB 113) 0 = .ok (.aload_n 0, 1) := by decide +kernel
theorem f_113_1 : decode (mB 113) 1 = .ok (.getfield 10, 3) := by decide +kernel
theorem f_113_4 : decode (mB 113) 4 = .ok (.iload_n 1, 1) := by decide +kernel
theorem f_113_5 : decode (mB 113) 5 = .ok (.invokevirtual 203, 3) := by decide +kernel
theorem f_113_8 : decode (mB 113) 8 = .ok (.ifCond .eq 37, 3) := by decide +kernel
theorem f_113_11 : decode (mB 113) 11 = .ok (.iload_n 2, 1) := by decide +kernel
theorem f_113_12 : decode (mB 113) 12 = .ok (.invokestatic 255, 3) := by decide +kernel
theorem f_113_15 : decode (mB 113) 15 = .ok (.ifCond .eq 30, 3) := by decide +kernel
theorem f_113_18 : decode (mB 113) 18 = .ok (.iload_n 3, 1) := by decide +kernel
theorem f_113_19 : decode (mB 113) 19 = .ok (.invokestatic 262, 3) := by decide +kernel
theorem f_113_22 : decode (mB 113) 22 = .ok (.ifCond .eq 23, 3) := by decide +kernel
theorem f_113_25 : decode (mB 113) 25 = .ok (.iload_n 3, 1) := by decide +kernel
theorem f_113_26 : decode (mB 113) 26 = .ok (.aload_n 0, 1) := by decide +kernel
theorem f_113_27 : decode (mB 113) 27 = .ok (.getfield 10, 3) := by decide +kernel
theorem f_113_30 : decode (mB 113) 30 = .ok (.getfield 206, 3) := by decide +kernel
theorem f_113_33 : decode (mB 113) 33 = .ok (.iload_n 1, 1) := by decide +kernel
theorem f_113_34 : decode (mB 113) 34 = .ok (.aaload, 1) := by decide +kernel
theorem f_113_35 : decode (mB 113) 35 = .ok (.getfield 246, 3) := by decide +kernel
theorem f_113_38 : decode (mB 113) 38 = .ok (.if_icmp .lt 7, 3) := by decide +kernel
theorem f_113_41 : decode (mB 113) 41 = .ok (.iconst 1, 1) := by decide +kernel
theorem f_113_42 : decode (mB 113) 42 = .ok (.goto 4, 3) := by decide +kernel
theorem f_113_45 : decode (mB 113) 45 = .ok (.iconst 0, 1) := by decide +kernel
theorem f_113_46 : decode (mB 113) 46 = .ok (.ireturn, 1) := by decide +kernel
theorem f_114_0 : decode (mB 114) 0 = .ok (.aload_n 0, 1) := by decide +kernel
theorem f_114_1 : decode (mB 114) 1 = .ok (.aload_n 1, 1) := by decide +kernel
theorem f_114_2 : decode (mB 114) 2 = .ok (.aload_n 1, 1) := by decide +kernel
theorem f_114_3 : decode (mB 114) 3 = .ok (.getfield 24, 3) := by decide +kernel
theorem f_114_6 : decode (mB 114) 6 = .ok (.iload_n 2, 1) := by decide +kernel
theorem f_114_7 : decode (mB 114) 7 = .ok (.iload_n 3, 1) := by decide +kernel
theorem f_114_8 : decode (mB 114) 8 = .ok (.iload 4, 2) := by decide +kernel
theorem f_114_10 : decode (mB 114) 10 = .ok (.invokevirtual 30, 3) := by decide +kernel
theorem f_114_13 : decode (mB 114) 13 = .ok (.ireturn, 1) := by decide +kernel
theorem f_115_0 : decode (mB 115) 0 = .ok (.aload_n 0, 1) := by decide +kernel
theorem f_115_1 : decode (mB 115) 1 = .ok (.getfield 11, 3) := by decide +kernel
theorem f_115_4 : decode (mB 115) 4 = .ok (.iconst 0, 1) := by decide +kernel
theorem f_115_5 : decode (mB 115) 5 = .ok (.invokestatic 34, 3) := by decide +kernel
theorem f_115_8 : decode (mB 115) 8 = .ok (.aload_n 0, 1) := by decide +kernel
theorem f_115_9 : decode (mB 115) 9 = .ok (.getfield 11, 3) := by decide +kernel
theorem f_115_12 : decode (mB 115) 12 = .ok (.iconst 0, 1) := by decide +kernel
theorem f_115_13 : decode (mB 115) 13 = .ok (.iload_n 2, 1) := by decide +kernel
theorem f_115_14 : decode (mB 115) 14 = .ok (.iastore, 1) := by decide +kernel
theorem f_115_15 : decode (mB 115) 15 = .ok (.aload_n 0, 1) := by decide +kernel
theorem f_115_16 : decode (mB 115) 16 = .ok (.getfield 11, 3) := by decide +kernel
theorem f_115_19 : decode (mB 115) 19 = .ok (.iconst 2, 1) := by decide +kernel
theorem f_115_20 : decode (mB 115) 20 = .ok (.aload_n 0, 1) := by decide +kernel
theorem f_115_21 : decode (mB 115) 21 = .ok (.getfield 20, 3) := by decide +kernel
theorem f_115_24 : decode (mB 115) 24 = .ok (.iload 4, 2) := by decide +kernel
theorem f_115_26 : decode (mB 115) 26 = .ok (.iload 5, 2) := by decide +kernel
theorem f_115_28 : decode (mB 115) 28 = .ok (.invokevirtual 40, 3) := by decide +kernel
theorem f_115_31 : decode (mB 115) 31 = .ok (.iastore, 1) := by decide +kernel
theorem f_115_32 : decode (mB 115) 32 = .ok (.aload_n 0, 1) := by decide +kernel
theorem f_115_33 : decode (mB 115) 33 = .ok (.aload_n 1, 1) := by decide +kernel
theorem f_115_34 : decode (mB 115) 34 = .ok (.iload 5, 2) := by decide +kernel
theorem f_115_36 : decode (mB 115) 36 = .ok (.invokevirtual 80, 3) := by decide +kernel
theorem f_115_39 : decode (mB 115) 39 = .ok (.aload_n 1, 1) := by decide +kernel
theorem f_115_40 : decode (mB 115) 40 = .ok (.getfield 84, 3) := by decide +kernel
theorem f_115_43 : decode (mB 115) 43 = .ok (.iconst 2, 1) := by decide +kernel
theorem f_115_44 : decode (mB 115) 44 = .ok (.if_icmp .eq 21, 3) := by decide +kernel
theorem f_115_47 : decode (mB 115) 47 = .ok (.aload_n 0, 1) := by decide +kernel
theorem f_115_48 : decode (mB 115) 48 = .ok (.iload_n 3, 1) := by decide +kernel
theorem f_115_49 : decode (mB 115) 49 = .ok (.iload 4, 2) := by decide +kernel
theorem f_115_51 : decode (mB 115) 51 = .ok (.iload 5, 2) := by decide +kernel
theorem f_115_53 : decode (mB 115) 53 = .ok (.invokevirtual 69, 3) := by decide +kernel
theorem f_115_56 : decode (mB 115) 56 = .ok (.ifCond .eq 7, 3) := by decide +kernel
theorem f_115_59 : decode (mB 115) 59 = .ok (.iconst 2, 1) := by decide +kernel
theorem f_115_60 : decode (mB 115) 60 = .ok (.goto 4, 3) := by decide +kernel
theorem f_115_63 : decode (mB 115) 63 = .ok (.iconst 0, 1) := by decide +kernel
theorem f_115_64 : decode (mB 115) 64 = .ok (.ireturn, 1) := by decide +kernel
theorem f_115_65 : decode (mB 115) 65 = .ok (.aload_n 0, 1) := by decide +kernel
theorem f_115_66 : decode (mB 115) 66 = .ok (.getfield 11, 3) := by decide +kernel
theorem f_115_69 : decode (mB 115) 69 = .ok (.bipush 7, 2) := by decide +kernel
theorem f_115_71 : decode (mB 115) 71 = .ok (.iconst 0, 1) := by decide +kernel
theorem f_115_72 : decode (mB 115) 72 = .ok (.iastore, 1) := by decide +kernel
theorem f_115_73 : decode (mB 115) 73 = .ok (.aload_n 0, 1) := by decide +kernel
theorem f_115_74 : decode (mB 115) 74 = .ok (.iload_n 3, 1) := by decide +kernel
theorem f_115_75 : decode (mB 115) 75 = .ok (.iload 4, 2) := by decide +kernel
theorem f_115_77 : decode (mB 115) 77 = .ok (.iload 5, 2) := by decide +kernel
theorem f_115_79 : decode (mB 115) 79 = .ok (.invokevirtual 69, 3) := by decide +kernel
theorem f_115_82 : decode (mB 115) 82 = .ok (.invokestatic 61, 3) := by decide +kernel
theorem f_115_85 : decode (mB 115) 85 = .ok (.istore 6, 2) := by decide +kernel
theorem f_115_87 : decode (mB 115) 87 = .ok (.aload_n 0, 1) := by decide +kernel
theorem f_115_88 : decode (mB 115) 88 = .ok (.getfield 11, 3) := by decide +kernel
theorem f_115_91 : decode (mB 115) 91 = .ok (.bipush 7, 2) := by decide +kernel
theorem f_115_93 : decode (mB 115) 93 = .ok (.iconst 1, 1) := by decide +kernel
theorem f_115_94 : decode (mB 115) 94 = .ok (.iastore, 1) := by decide +kernel
theorem f_115_95 : decode (mB 115) 95 = .ok (.iload 6, 2) := by decide +kernel
theorem f_115_97 : decode (mB 115) 97 = .ok (.aload_n 0, 1) := by decide +kernel
theorem f_115_98 : decode (mB 115) 98 = .ok (.iload_n 3, 1) := by decide +kernel
theorem f_115_99 : decode (mB 115) 99 = .ok (.iload 4, 2) := by decide +kernel
theorem f_115_101 : decode (mB 115) 101 = .ok (.iload 5, 2) := by decide +kernel
theorem f_115_103 : decode (mB 115) 103 = .ok (.invokevirtual 69, 3) := by decide +kernel
theorem f_115_106 : decode (mB 115) 106 = .ok (.invokestatic 61, 3) := by decide +kernel
theorem f_115_109 : decode (mB 115) 109 = .ok (.iadd, 1) := by decide +kernel
theorem f_115_110 : decode (mB 115) 110 = .ok (.ireturn, 1) := by decide +kernel
theorem f_116_0 : decode (mB 116) 0 = .ok (.iconst 0, 1) := by decide +kernel
theorem f_116_1 : decode (mB 116) 1 = .ok (.istore_n 2, 1) := by decide +kernel
theorem f_116_2 : decode (mB 116) 2 = .ok (.aload_n 0, 1) := by decide +kernel
theorem f_116_3 : decode (mB 116) 3 = .ok (.arraylength, 1) := by decide +kernel
theorem f_116_4 : decode (mB 116) 4 = .ok (.istore_n 3, 1) := by decide +kernel
theorem f_116_5 : decode (mB 116) 5 = .ok (.iload_n 2, 1) := by decide +kernel
theorem f_116_6 : decode (mB 116) 6 = .ok (.iload_n 3, 1) := by decide +kernel
theorem f_116_7 : decode (mB 116) 7 = .ok (.if_icmp .ge 13, 3) := by decide +kernel
theorem f_116_10 : decode (mB 116) 10 = .ok (.aload_n 0, 1) := by decide +kernel
theorem f_116_11 : decode (mB 116) 11 = .ok (.iload_n 2, 1) := by decide +kernel
theorem f_116_12 : decode (mB 116) 12 = .ok (.iload_n 1, 1) := by decide +kernel
theorem f_116_13 : decode (mB 116) 13 = .ok (.iastore, 1) := by decide +kernel
theorem f_116_14 : decode (mB 116) 14 = .ok (.iinc 2 1, 3) := by decide +kernel
theorem f_116_17 : decode (mB 116) 17 = .ok (.goto (-12), 3) := by decide +kernel
theorem f_116_20 : decode (mB 116) 20 = .ok (.return_, 1) := by decide +kernel
theorem f_117_0 : decode (mB 117) 0 = .ok (.aload_n 0, 1) := by decide +kernel
theorem f_117_1 : decode (mB 117) 1 = .ok (.getfield 11, 3) := by decide +kernel
theorem f_117_4 : decode (mB 117) 4 = .ok (.iconst 1, 1) := by decide +kernel
theorem f_117_5 : decode (mB 117) 5 = .ok (.iload_n 2, 1) := by decide +kernel
theorem f_117_6 : decode (mB 117) 6 = .ok (.aload_n 1, 1) := by decide +kernel
theorem f_117_7 : decode (mB 117) 7 = .ok (.getfield 87, 3) := by decide +kernel
theorem f_117_10 : decode (mB 117) 10 = .ok (.isub, 1) := by decide +kernel
theorem f_117_11 : decode (mB 117) 11 = .ok (.iastore, 1) := by decide +kernel
theorem f_117_12 : decode (mB 117) 12 = .ok (.aload_n 0, 1) := by decide +kernel
theorem f_117_13 : decode (mB 117) 13 = .ok (.getfield 11, 3) := by decide +kernel
theorem f_117_16 : decode (mB 117) 16 = .ok (.iconst 3, 1) := by decide +kernel
theorem f_117_17 : decode (mB 117) 17 = .ok (.aload_n 1, 1) := by decide +kernel
theorem f_117_18 : decode (mB 117) 18 = .ok (.invokevirtual 90, 3) := by decide +kernel
theorem f_117_21 : decode (mB 117) 21 = .ok (.iastore, 1) := by decide +kernel
theorem f_117_22 : decode (mB 117) 22 = .ok (.aload_n 0, 1) := by decide +kernel
theorem f_117_23 : decode (mB 117) 23 = .ok (.getfield 11, 3) := by decide +kernel
theorem f_117_26 : decode (mB 117) 26 = .ok (.iconst 4, 1) := by decide +kernel
theorem f_117_27 : decode (mB 117) 27 = .ok (.aload_n 1, 1) := by decide +kernel
theorem f_117_28 : decode (mB 117) 28 = .ok (.getfield 94, 3) := by decide +kernel
theorem f_117_31 : decode (mB 117) 31 = .ok (.iastore, 1) := by decide +kernel
theorem f_117_32 : decode (mB 117) 32 = .ok (.aload_n 0, 1) := by decide +kernel
theorem f_117_33 : decode (mB 117) 33 = .ok (.getfield 11, 3) := by decide +kernel
theorem f_117_36 : decode (mB 117) 36 = .ok (.iconst 5, 1) := by decide +kernel
theorem f_117_37 : decode (mB 117) 37 = .ok (.aload_n 1, 1) := by decide +kernel
theorem f_117_38 : decode (mB 117) 38 = .ok (.getfield 97, 3) := by decide +kernel
theorem f_117_41 : decode (mB 117) 41 = .ok (.iastore, 1) := by decide +kernel
theorem f_117_42 : decode (mB 117) 42 = .ok (.aload_n 0, 1) := by decide +kernel
theorem f_117_43 : decode (mB 117) 43 = .ok (.getfield 11, 3) := by decide +kernel
theorem f_117_46 : decode (mB 117) 46 = .ok (.bipush 7, 2) := by decide +kernel
theorem f_117_48 : decode (mB 117) 48 = .ok (.aload_n 1, 1) := by decide +kernel
theorem f_117_49 : decode (mB 117) 49 = .ok (.getfield 84, 3) := by decide +kernel
theorem f_117_52 : decode (mB 117) 52 = .ok (.iastore, 1) := by decide +kernel
theorem f_117_53 : decode (mB 117) 53 = .ok (.aload_n 0, 1) := by decide +kernel
theorem f_117_54 : decode (mB 117) 54 = .ok (.getfield 11, 3) := by decide +kernel
theorem f_117_57 : decode (mB 117) 57 = .ok (.bipush 8, 2) := by decide +kernel
theorem f_117_59 : decode (mB 117) 59 = .ok (.aload_n 0, 1) := by decide +kernel
theorem f_117_60 : decode (mB 117) 60 = .ok (.getfield 20, 3) := by decide +kernel
theorem f_117_63 : decode (mB 117) 63 = .ok (.getfield 46, 3) := by decide +kernel
theorem f_117_66 : decode (mB 117) 66 = .ok (.aload_n 1, 1) := by decide +kernel
theorem f_117_67 : decode (mB 117) 67 = .ok (.getfield 100, 3) := by decide +kernel
theorem f_117_70 : decode (mB 117) 70 = .ok (.aaload, 1) := by decide +kernel
theorem f_117_71 : decode (mB 117) 71 = .ok (.getfield 55, 3) := by decide +kernel
theorem f_117_74 : decode (mB 117) 74 = .ok (.ifCond .ne 21, 3) := by decide +kernel
theorem f_117_77 : decode (mB 117) 77 = .ok (.aload_n 0, 1) := by decide +kernel
theorem f_117_78 : decode (mB 117) 78 = .ok (.getfield 20, 3) := by decide +kernel
theorem f_117_81 : decode (mB 117) 81 = .ok (.getfield 46, 3) := by decide +kernel
theorem f_117_84 : decode (mB 117) 84 = .ok (.aload_n 1, 1) := by decide +kernel
theorem f_117_85 : decode (mB 117) 85 = .ok (.getfield 103, 3) := by decide +kernel
theorem f_117_88 : decode (mB 117) 88 = .ok (.aaload, 1) := by decide +kernel
theorem f_117_89 : decode (mB 117) 89 = .ok (.getfield 55, 3) := by decide +kernel
theorem f_117_92 : decode (mB 117) 92 = .ok (.ifCond .eq 7, 3) := by decide +kernel
theorem f_117_95 : decode (mB 117) 95 = .ok (.iconst 1, 1) := by decide +kernel
theorem f_117_96 : decode (mB 117) 96 = .ok (.goto 4, 3) := by decide +kernel
theorem f_117_99 : decode (mB 117) 99 = .ok (.iconst 0, 1) := by decide +kernel
theorem f_117_100 : decode (mB 117) 100 = .ok (.invokestatic 61, 3) := by decide +kernel
theorem f_117_103 : decode (mB 117) 103 = .ok (.iastore, 1) := by decide +kernel
theorem f_117_104 : decode (mB 117) 104 = .ok (.aload_n 0, 1) := by decide +kernel
theorem f_117_105 : decode (mB 117) 105 = .ok (.getfield 11, 3) := by decide +kernel
theorem f_117_108 : decode (mB 117) 108 = .ok (.bipush 10, 2) := by decide +kernel
theorem f_117_110 : decode (mB 117) 110 = .ok (.aload_n 1, 1) := by decide +kernel
theorem f_117_111 : decode (mB 117) 111 = .ok (.getfield 106, 3) := by decide +kernel
theorem f_117_114 : decode (mB 117) 114 = .ok (.aload_n 1, 1) := by decide +kernel
theorem f_117_115 : decode (mB 117) 115 = .ok (.getfield 87, 3) := by decide +kernel
theorem f_117_118 : decode (mB 117) 118 = .ok (.isub, 1) := by decide +kernel
theorem f_117_119 : decode (mB 117) 119 = .ok (.iastore, 1) := by decide +kernel
theorem f_117_120 : decode (mB 117) 120 = .ok (.aload_n 0, 1) := by decide +kernel
theorem f_117_121 : decode (mB 117) 121 = .ok (.getfield 20, 3) := by decide +kernel
theorem f_117_124 : decode (mB 117) 124 = .ok (.aload_n 1, 1) := by decide +kernel
theorem f_117_125 : decode (mB 117) 125 = .ok (.getfield 109, 3) := by decide +kernel
theorem f_117_128 : decode (mB 117) 128 = .ok (.invokevirtual 112, 3) := by decide +kernel
theorem f_117_131 : decode (mB 117) 131 = .ok (.ifCond .eq 19, 3) := by decide +kernel
theorem f_117_134 : decode (mB 117) 134 = .ok (.aload_n 0, 1) := by decide +kernel
theorem f_117_135 : decode (mB 117) 135 = .ok (.aload_n 0, 1) := by decide +kernel
theorem f_117_136 : decode (mB 117) 136 = .ok (.getfield 20, 3) := by decide +kernel
theorem f_117_139 : decode (mB 117) 139 = .ok (.getfield 116, 3) := by decide +kernel
theorem f_117_142 : decode (mB 117) 142 = .ok (.aload_n 1, 1) := by decide +kernel
theorem f_117_143 : decode (mB 117) 143 = .ok (.getfield 109, 3) := by decide +kernel
theorem f_117_146 : decode (mB 117) 146 = .ok (.aaload, 1) := by decide +kernel
theorem f_117_147 : decode (mB 117) 147 = .ok (.invokevirtual 65, 3) := by decide +kernel
theorem f_117_150 : decode (mB 117) 150 = .ok (.return_, 1) := by decide +kernel
theorem f_118_0 : decode (mB 118) 0 = .ok (.aload_n 0, 1) := by decide +kernel
theorem f_118_1 : decode (mB 118) 1 = .ok (.getfield 11, 3) := by decide +kernel
theorem f_118_4 : decode (mB 118) 4 = .ok (.bipush 6, 2) := by decide +kernel
theorem f_118_6 : decode (mB 118) 6 = .ok (.aload_n 1, 1) := by decide +kernel
theorem f_118_7 : decode (mB 118) 7 = .ok (.getfield 120, 3) := by decide +kernel
theorem f_118_10 : decode (mB 118) 10 = .ok (.iastore, 1) := by decide +kernel
theorem f_118_11 : decode (mB 118) 11 = .ok (.aload_n 0, 1) := by decide +kernel
theorem f_118_12 : decode (mB 118) 12 = .ok (.getfield 11, 3) := by decide +kernel
theorem f_118_15 : decode (mB 118) 15 = .ok (.bipush 9, 2) := by decide +kernel
theorem f_118_17 : decode (mB 118) 17 = .ok (.aload_n 1, 1) := by decide +kernel
theorem f_118_18 : decode (mB 118) 18 = .ok (.getfield 123, 3) := by decide +kernel
theorem f_118_21 : decode (mB 118) 21 = .ok (.invokestatic 61, 3) := by decide +kernel
theorem f_118_24 : decode (mB 118) 24 = .ok (.iastore, 1) := by decide +kernel
theorem f_118_25 : decode (mB 118) 25 = .ok (.return_, 1) := by decide +kernel
theorem f_119_0 : decode (mB 119) 0 = .ok (.aload_n 0, 1) := by decide +kernel
theorem f_119_1 : decode (mB 119) 1 = .ok (.getfield 20, 3) := by decide +kernel
theorem f_119_4 : decode (mB 119) 4 = .ok (.iload_n 2, 1) := by decide +kernel
theorem f_119_5 : decode (mB 119) 5 = .ok (.iload_n 3, 1) := by decide +kernel
theorem f_119_6 : decode (mB 119) 6 = .ok (.invokevirtual 126, 3) := by decide +kernel
theorem f_119_9 : decode (mB 119) 9 = .ok (.istore 4, 2) := by decide +kernel
theorem f_119_11 : decode (mB 119) 11 = .ok (.iload 4, 2) := by decide +kernel
theorem f_119_13 : decode (mB 119) 13 = .ok (.ifCond .lt 19, 3) := by decide +kernel
theorem f_119_16 : decode (mB 119) 16 = .ok (.aload_n 0, 1) := by decide +kernel
theorem f_119_17 : decode (mB 119) 17 = .ok (.getfield 20, 3) := by decide +kernel
theorem f_119_20 : decode (mB 119) 20 = .ok (.getfield 129, 3) := by decide +kernel
theorem f_119_23 : decode (mB 119) 23 = .ok (.iload 4, 2) := by decide +kernel
theorem f_119_25 : decode (mB 119) 25 = .ok (.aaload, 1) := by decide +kernel
theorem f_119_26 : decode (mB 119) 26 = .ok (.getfield 133, 3) := by decide +kernel
theorem f_119_29 : decode (mB 119) 29 = .ok (.goto 4, 3) := by decide +kernel
theorem f_119_32 : decode (mB 119) 32 = .ok (.aconst_null, 1) := by decide +kernel
theorem f_119_33 : decode (mB 119) 33 = .ok (.astore 5, 2) := by decide +kernel
theorem f_119_35 : decode (mB 119) 35 = .ok (.aload 5, 2) := by decide +kernel
theorem f_119_37 : decode (mB 119) 37 = .ok (.ifnonnull 5, 3) := by decide +kernel
theorem f_119_40 : decode (mB 119) 40 = .ok (.iconst 0, 1) := by decide +kernel
theorem f_119_41 : decode (mB 119) 41 = .ok (.ireturn, 1) := by decide +kernel
theorem f_119_42 : decode (mB 119) 42 = .ok (.iconst 0, 1) := by decide +kernel
theorem f_119_43 : decode (mB 119) 43 = .ok (.istore 6, 2) := by decide +kernel
theorem f_119_45 : decode (mB 119) 45 = .ok (.aload 5, 2) := by decide +kernel
theorem f_119_47 : decode (mB 119) 47 = .ok (.iload_n 1, 1) := by decide +kernel
theorem f_119_48 : decode (mB 119) 48 = .ok (.invokevirtual 139, 3) := by decide +kernel
theorem f_119_51 : decode (mB 119) 51 = .ok (.aload 5, 2) := by decide +kernel
theorem f_119_53 : decode (mB 119) 53 = .ok (.getfield 143, 3) := by decide +kernel
theorem f_119_56 : decode (mB 119) 56 = .ok (.arraylength, 1) := by decide +kernel
theorem f_119_57 : decode (mB 119) 57 = .ok (.invokestatic 146, 3) := by decide +kernel
theorem f_119_60 : decode (mB 119) 60 = .ok (.istore 7, 2) := by decide +kernel
theorem f_119_62 : decode (mB 119) 62 = .ok (.aload 5, 2) := by decide +kernel
theorem f_119_64 : decode (mB 119) 64 = .ok (.iload_n 1, 1) := by decide +kernel
theorem f_119_65 : decode (mB 119) 65 = .ok (.invokevirtual 151, 3) := by decide +kernel
theorem f_119_68 : decode (mB 119) 68 = .ok (.istore 8, 2) := by decide +kernel
theorem f_119_70 : decode (mB 119) 70 = .ok (.iload 8, 2) := by decide +kernel
theorem f_119_72 : decode (mB 119) 72 = .ok (.iload 7, 2) := by decide +kernel
theorem f_119_74 : decode (mB 119) 74 = .ok (.if_icmp .ge 140, 3) := by decide +kernel
theorem f_119_77 : decode (mB 119) 77 = .ok (.aload 5, 2) := by decide +kernel
theorem f_119_79 : decode (mB 119) 79 = .ok (.getfield 143, 3) := by decide +kernel
theorem f_119_82 : decode (mB 119) 82 = .ok (.iload 8, 2) := by decide +kernel
theorem f_119_84 : decode (mB 119) 84 = .ok (.iaload, 1) := by decide +kernel
theorem f_119_85 : decode (mB 119) 85 = .ok (.istore 9, 2) := by decide +kernel
theorem f_119_87 : decode (mB 119) 87 = .ok (.iload 9, 2) := by decide +kernel
theorem f_119_89 : decode (mB 119) 89 = .ok (.sipush 20000, 3) := by decide +kernel
theorem f_119_92 : decode (mB 119) 92 = .ok (.if_icmp .ge 32, 3) := by decide +kernel
theorem f_119_95 : decode (mB 119) 95 = .ok (.iload 6, 2) := by decide +kernel
theorem f_119_97 : decode (mB 119) 97 = .ok (.aload_n 0, 1) := by decide +kernel
theorem f_119_98 : decode (mB 119) 98 = .ok (.getfield 17, 3) := by decide +kernel
theorem f_119_101 : decode (mB 119) 101 = .ok (.arraylength, 1) := by decide +kernel
theorem f_119_102 : decode (mB 119) 102 = .ok (.if_icmp .ge 106, 3) := by decide +kernel
theorem f_119_105 : decode (mB 119) 105 = .ok (.aload_n 0, 1) := by decide +kernel
theorem f_119_106 : decode (mB 119) 106 = .ok (.getfield 17, 3) := by decide +kernel
theorem f_119_109 : decode (mB 119) 109 = .ok (.iload 6, 2) := by decide +kernel
theorem f_119_111 : decode (mB 119) 111 = .ok (.aload_n 0, 1) := by decide +kernel
theorem f_119_112 : decode (mB 119) 112 = .ok (.iload 9, 2) := by decide +kernel
theorem f_119_114 : decode (mB 119) 114 = .ok (.invokevirtual 154, 3) := by decide +kernel
theorem f_119_117 : decode (mB 119) 117 = .ok (.iastore, 1) := by decide +kernel
theorem f_119_118 : decode (mB 119) 118 = .ok (.iinc 6 1, 3) := by decide +kernel
theorem f_119_121 : decode (mB 119) 121 = .ok (.goto 87, 3) := by decide +kernel
theorem f_119_124 : decode (mB 119) 124 = .ok (.iload 9, 2) := by decide +kernel
theorem f_119_126 : decode (mB 119) 126 = .ok (.sipush 20016, 3) := by decide +kernel
theorem f_119_129 : decode (mB 119) 129 = .ok (.if_icmp .ne 40, 3) := by decide +kernel
theorem f_119_132 : decode (mB 119) 132 = .ok (.iload 6, 2) := by decide +kernel
theorem f_119_134 : decode (mB 119) 134 = .ok (.ifCond .le 74, 3) := by decide +kernel
theorem f_119_137 : decode (mB 119) 137 = .ok (.aload_n 0, 1) := by decide +kernel
theorem f_119_138 : decode (mB 119) 138 = .ok (.getfield 17, 3) := by decide +kernel
theorem f_119_141 : decode (mB 119) 141 = .ok (.iload 6, 2) := by decide +kernel
theorem f_119_143 : decode (mB 119) 143 = .ok (.iconst 1, 1) := by decide +kernel
theorem f_119_144 : decode (mB 119) 144 = .ok (.isub, 1) := by decide +kernel
theorem f_119_145 : decode (mB 119) 145 = .ok (.aload_n 0, 1) := by decide +kernel
theorem f_119_146 : decode (mB 119) 146 = .ok (.getfield 17, 3) := by decide +kernel
theorem f_119_149 : decode (mB 119) 149 = .ok (.iload 6, 2) := by decide +kernel
theorem f_119_151 : decode (mB 119) 151 = .ok (.iconst 1, 1) := by decide +kernel
theorem f_119_152 : decode (mB 119) 152 = .ok (.isub, 1) := by decide +kernel
theorem f_119_153 : decode (mB 119) 153 = .ok (.iaload, 1) := by decide +kernel
theorem f_119_154 : decode (mB 119) 154 = .ok (.ifCond .ne 7, 3) := by decide +kernel
theorem f_119_157 : decode (mB 119) 157 = .ok (.iconst 1, 1) := by decide +kernel
theorem f_119_158 : decode (mB 119) 158 = .ok (.goto 4, 3) := by decide +kernel
theorem f_119_161 : decode (mB 119) 161 = .ok (.iconst 0, 1) := by decide +kernel
theorem f_119_162 : decode (mB 119) 162 = .ok (.invokestatic 61, 3) := by decide +kernel
theorem f_119_165 : decode (mB 119) 165 = .ok (.iastore, 1) := by decide +kernel
theorem f_119_166 : decode (mB 119) 166 = .ok (.goto 42, 3) := by decide +kernel
theorem f_119_169 : decode (mB 119) 169 = .ok (.iload 6, 2) := by decide +kernel
theorem f_119_171 : decode (mB 119) 171 = .ok (.iconst 1, 1) := by decide +kernel
theorem f_119_172 : decode (mB 119) 172 = .ok (.if_icmp .le 36, 3) := by decide +kernel
theorem f_119_175 : decode (mB 119) 175 = .ok (.iinc 6 (-1), 3) := by decide +kernel
theorem f_119_178 : decode (mB 119) 178 = .ok (.aload_n 0, 1) := by decide +kernel
theorem f_119_179 : decode (mB 119) 179 = .ok (.getfield 17, 3) := by decide +kernel
theorem f_119_182 : decode (mB 119) 182 = .ok (.iload 6, 2) := by decide +kernel
theorem f_119_184 : decode (mB 119) 184 = .ok (.iconst 1, 1) := by decide +kernel
theorem f_119_185 : decode (mB 119) 185 = .ok (.isub, 1) := by decide +kernel
theorem f_119_186 : decode (mB 119) 186 = .ok (.iload 9, 2) := by decide +kernel
theorem f_119_188 : decode (mB 119) 188 = .ok (.aload_n 0, 1) := by decide +kernel
theorem f_119_189 : decode (mB 119) 189 = .ok (.getfield 17, 3) := by decide +kernel
theorem f_119_192 : decode (mB 119) 192 = .ok (.iload 6, 2) := by decide +kernel
theorem f_119_194 : decode (mB 119) 194 = .ok (.iconst 1, 1) := by decide +kernel
theorem f_119_195 : decode (mB 119) 195 = .ok (.isub, 1) := by decide +kernel
theorem f_119_196 : decode (mB 119) 196 = .ok (.iaload, 1) := by decide +kernel
theorem f_119_197 : decode (mB 119) 197 = .ok (.aload_n 0, 1) := by decide +kernel
theorem f_119_198 : decode (mB 119) 198 = .ok (.getfield 17, 3) := by decide +kernel
theorem f_119_201 : decode (mB 119) 201 = .ok (.iload 6, 2) := by decide +kernel
theorem f_119_203 : decode (mB 119) 203 = .ok (.iaload, 1) := by decide +kernel
theorem f_119_204 : decode (mB 119) 204 = .ok (.invokestatic 157, 3) := by decide +kernel
theorem f_119_207 : decode (mB 119) 207 = .ok (.iastore, 1) := by decide +kernel
theorem f_119_208 : decode (mB 119) 208 = .ok (.iinc 8 1, 3) := by decide +kernel
theorem f_119_211 : decode (mB 119) 211 = .ok (.goto (-141), 3) := by decide +kernel
theorem f_119_214 : decode (mB 119) 214 = .ok (.iload 6, 2) := by decide +kernel
theorem f_119_216 : decode (mB 119) 216 = .ok (.ifCond .le 16, 3) := by decide +kernel
theorem f_119_219 : decode (mB 119) 219 = .ok (.aload_n 0, 1) := by decide +kernel
theorem f_119_220 : decode (mB 119) 220 = .ok (.getfield 17, 3) := by decide +kernel
theorem f_119_223 : decode (mB 119) 223 = .ok (.iconst 0, 1) := by decide +kernel
theorem f_119_224 : decode (mB 119) 224 = .ok (.iaload, 1) := by decide +kernel
theorem f_119_225 : decode (mB 119) 225 = .ok (.ifCond .eq 7, 3) := by decide +kernel
theorem f_119_228 : decode (mB 119) 228 = .ok (.iconst 1, 1) := by decide +kernel
theorem f_119_229 : decode (mB 119) 229 = .ok (.goto 4, 3) := by decide +kernel
theorem f_119_232 : decode (mB 119) 232 = .ok (.iconst 0, 1) := by decide +kernel
theorem f_119_233 : decode (mB 119) 233 = .ok (.ireturn, 1) := by decide +kernel
theorem f_120_0 : decode (mB 120) 0 = .ok (.iload_n 1, 1) := by decide +kernel
theorem f_120_1 : decode (mB 120) 1 = .ok (.ifCond .ne 10, 3) := by decide +kernel
theorem f_120_4 : decode (mB 120) 4 = .ok (.aload_n 0, 1) := by decide +kernel
theorem f_120_5 : decode (mB 120) 5 = .ok (.getfield 15, 3) := by decide +kernel
theorem f_120_8 : decode (mB 120) 8 = .ok (.goto 20, 3) := by decide +kernel
theorem f_120_11 : decode (mB 120) 11 = .ok (.iload_n 1, 1) := by decide +kernel
theorem f_120_12 : decode (mB 120) 12 = .ok (.iconst 1, 1) := by decide +kernel
theorem f_120_13 : decode (mB 120) 13 = .ok (.if_icmp .ne 10, 3) := by decide +kernel
theorem f_120_16 : decode (mB 120) 16 = .ok (.aload_n 0, 1) := by decide +kernel
theorem f_120_17 : decode (mB 120) 17 = .ok (.getfield 19, 3) := by decide +kernel
theorem f_120_20 : decode (mB 120) 20 = .ok (.goto 8, 3) := by decide +kernel
theorem f_120_23 : decode (mB 120) 23 = .ok (.aload_n 0, 1) := by decide +kernel
theorem f_120_24 : decode (mB 120) 24 = .ok (.getfield 9, 3) := by decide +kernel
theorem f_120_27 : decode (mB 120) 27 = .ok (.arraylength, 1) := by decide +kernel
theorem f_120_28 : decode (mB 120) 28 = .ok (.ireturn, 1) := by decide +kernel
theorem f_121_0 : decode (mB 121) 0 = .ok (.iload_n 1, 1) := by decide +kernel
theorem f_121_1 : decode (mB 121) 1 = .ok (.ifCond .ne 7, 3) := by decide +kernel
theorem f_121_4 : decode (mB 121) 4 = .ok (.iconst 0, 1) := by decide +kernel
theorem f_121_5 : decode (mB 121) 5 = .ok (.goto 19, 3) := by decide +kernel
theorem f_121_8 : decode (mB 121) 8 = .ok (.iload_n 1, 1) := by decide +kernel
theorem f_121_9 : decode (mB 121) 9 = .ok (.iconst 1, 1) := by decide +kernel
theorem f_121_10 : decode (mB 121) 10 = .ok (.if_icmp .ne 10, 3) := by decide +kernel
theorem f_121_13 : decode (mB 121) 13 = .ok (.aload_n 0, 1) := by decide +kernel
theorem f_121_14 : decode (mB 121) 14 = .ok (.getfield 15, 3) := by decide +kernel
theorem f_121_17 : decode (mB 121) 17 = .ok (.goto 7, 3) := by decide +kernel
theorem f_121_20 : decode (mB 121) 20 = .ok (.aload_n 0, 1) := by decide +kernel
theorem f_121_21 : decode (mB 121) 21 = .ok (.getfield 19, 3) := by decide +kernel
theorem f_121_24 : decode (mB 121) 24 = .ok (.ireturn, 1) := by decide +kernel
theorem f_122_0 : decode (mB 122) 0 = .ok (.iload_n 1, 1) := by decide +kernel
theorem f_122_1 : decode (mB 122) 1 = .ok (.sipush 10000, 3) := by decide +kernel
theorem f_122_4 : decode (mB 122) 4 = .ok (.isub, 1) := by decide +kernel
theorem f_122_5 : decode (mB 122) 5 = .ok (.istore_n 2, 1) := by decide +kernel
theorem f_122_6 : decode (mB 122) 6 = .ok (.iload_n 2, 1) := by decide +kernel
theorem f_122_7 : decode (mB 122) 7 = .ok (.iconst 0, 1) := by decide +kernel
theorem f_122_8 : decode (mB 122) 8 = .ok (.bipush 10, 2) := by decide +kernel
theorem f_122_10 : decode (mB 122) 10 = .ok (.invokestatic 161, 3) := by decide +kernel
theorem f_122_13 : decode (mB 122) 13 = .ok (.ifCond .eq 12, 3) := by decide +kernel
theorem f_122_16 : decode (mB 122) 16 = .ok (.aload_n 0, 1) := by decide +kernel
theorem f_122_17 : decode (mB 122) 17 = .ok (.getfield 11, 3) := by decide +kernel
theorem f_122_20 : decode (mB 122) 20 = .ok (.iload_n 2, 1) := by decide +kernel
theorem f_122_21 : decode (mB 122) 21 = .ok (.iaload, 1) := by decide +kernel
theorem f_122_22 : decode (mB 122) 22 = .ok (.goto 4, 3) := by decide +kernel
theorem f_122_25 : decode (mB 122) 25 = .ok (.iload_n 1, 1) := by decide +kernel
theorem f_122_26 : decode (mB 122) 26 = .ok (.ireturn, 1) := by decide +kernel
theorem f_123_0 : decode (mB 123) 0 = .ok (.iload_n 0, 1) := by decide +kernel
theorem f_123_1 : decode (mB 123) 1 = .ok (.sipush 20000, 3) := by decide +kernel
theorem f_123_4 : decode (mB 123) 4 = .ok (.isub, 1) := by decide +kernel
theorem f_123_5 : decode (mB 123) 5 = .ok (.tableswitch 121 14 23 #[55, 72, 121, 121, 121, 121, 117, 121, 89, 103], 55) := by decide +kernel
theorem f_123_60 : decode (mB 123) 60 = .ok (.iload_n 1, 1) := by decide +kernel
theorem f_123_61 : decode (mB 123) 61 = .ok (.ifCond .ne 7, 3) := by decide +kernel
theorem f_123_64 : decode (mB 123) 64 = .ok (.iload_n 2, 1) := by decide +kernel
theorem f_123_65 : decode (mB 123) 65 = .ok (.ifCond .eq 7, 3) := by decide +kernel
theorem f_123_68 : decode (mB 123) 68 = .ok (.iconst 1, 1) := by decide +kernel
theorem f_123_69 : decode (mB 123) 69 = .ok (.goto 4, 3) := by decide +kernel
theorem f_123_72 : decode (mB 123) 72 = .ok (.iconst 0, 1) := by decide +kernel
theorem f_123_73 : decode (mB 123) 73 = .ok (.invokestatic 61, 3) := by decide +kernel
theorem f_123_76 : decode (mB 123) 76 = .ok (.ireturn, 1) := by decide +kernel
theorem f_123_77 : decode (mB 123) 77 = .ok (.iload_n 1, 1) := by decide +kernel
theorem f_123_78 : decode (mB 123) 78 = .ok (.ifCond .eq 11, 3) := by decide +kernel
theorem f_123_81 : decode (mB 123) 81 = .ok (.iload_n 2, 1) := by decide +kernel
theorem f_123_82 : decode (mB 123) 82 = .ok (.ifCond .eq 7, 3) := by decide +kernel
theorem f_123_85 : decode (mB 123) 85 = .ok (.iconst 1, 1) := by decide +kernel
theorem f_123_86 : decode (mB 123) 86 = .ok (.goto 4, 3) := by decide +kernel
theorem f_123_89 : decode (mB 123) 89 = .ok (.iconst 0, 1) := by decide +kernel
theorem f_123_90 : decode (mB 123) 90 = .ok (.invokestatic 61, 3) := by decide +kernel
theorem f_123_93 : decode (mB 123) 93 = .ok (.ireturn, 1) := by decide +kernel
theorem f_123_94 : decode (mB 123) 94 = .ok (.iload_n 1, 1) := by decide +kernel
theorem f_123_95 : decode (mB 123) 95 = .ok (.iload_n 2, 1) := by decide +kernel
theorem f_123_96 : decode (mB 123) 96 = .ok (.if_icmp .ge 7, 3) := by decide +kernel
theorem f_123_99 : decode (mB 123) 99 = .ok (.iconst 1, 1) := by decide +kernel
theorem f_123_100 : decode (mB 123) 100 = .ok (.goto 4, 3) := by decide +kernel
theorem f_123_103 : decode (mB 123) 103 = .ok (.iconst 0, 1) := by decide +kernel
theorem f_123_104 : decode (mB 123) 104 = .ok (.invokestatic 61, 3) := by decide +kernel
theorem f_123_107 : decode (mB 123) 107 = .ok (.ireturn, 1) := by decide +kernel
theorem f_123_108 : decode (mB 123) 108 = .ok (.iload_n 1, 1) := by decide +kernel
theorem f_123_109 : decode (mB 123) 109 = .ok (.iload_n 2, 1) := by decide +kernel
theorem f_123_110 : decode (mB 123) 110 = .ok (.if_icmp .ne 7, 3) := by decide +kernel
theorem f_123_113 : decode (mB 123) 113 = .ok (.iconst 1, 1) := by decide +kernel
theorem f_123_114 : decode (mB 123) 114 = .ok (.goto 4, 3) := by decide +kernel
theorem f_123_117 : decode (mB 123) 117 = .ok (.iconst 0, 1) := by decide +kernel
theorem f_123_118 : decode (mB 123) 118 = .ok (.invokestatic 61, 3) := by decide +kernel
theorem f_123_121 : decode (mB 123) 121 = .ok (.ireturn, 1) := by decide +kernel
theorem f_123_122 : decode (mB 123) 122 = .ok (.iload_n 1, 1) := by decide +kernel
theorem f_123_123 : decode (mB 123) 123 = .ok (.iload_n 2, 1) := by decide +kernel
theorem f_123_124 : decode (mB 123) 124 = .ok (.iadd, 1) := by decide +kernel
theorem f_123_125 : decode (mB 123) 125 = .ok (.ireturn, 1) := by decide +kernel
theorem f_123_126 : decode (mB 123) 126 = .ok (.iload_n 1, 1) := by decide +kernel
theorem f_123_127 : decode (mB 123) 127 = .ok (.iload_n 2, 1) := by decide +kernel
theorem f_123_128 : decode (mB 123) 128 = .ok (.isub, 1) := by decide +kernel
theorem f_123_129 : decode (mB 123) 129 = .ok (.ireturn, 1) := by decide +kernel
theorem f_124_0 : decode (mB 124) 0 = .ok (.aload_n 0, 1) := by decide +kernel
theorem f_124_1 : decode (mB 124) 1 = .ok (.iload_n 1, 1) := by decide +kernel
theorem f_124_2 : decode (mB 124) 2 = .ok (.iload_n 2, 1) := by decide +kernel
theorem f_124_3 : decode (mB 124) 3 = .ok (.iload_n 3, 1) := by decide +kernel
theorem f_124_4 : decode (mB 124) 4 = .ok (.invokevirtual 301, 3) := by decide +kernel
theorem f_124_7 : decode (mB 124) 7 = .ok (.ifCond .ne 10, 3) := by decide +kernel
theorem f_124_10 : decode (mB 124) 10 = .ok (.aload_n 0, 1) := by decide +kernel
theorem f_124_11 : decode (mB 124) 11 = .ok (.ldc 83, 2) := by decide +kernel
theorem f_124_13 : decode (mB 124) 13 = .ok (.invokevirtual 84, 3) := by decide +kernel
theorem f_124_16 : decode (mB 124) 16 = .ok (.ireturn, 1) := by decide +kernel
theorem f_124_17 : decode (mB 124) 17 = .ok (.aload_n 0, 1) := by decide +kernel
theorem f_124_18 : decode (mB 124) 18 = .ok (.getfield 24, 3) := by decide +kernel
theorem f_124_21 : decode (mB 124) 21 = .ok (.aload_n 0, 1) := by decide +kernel
theorem f_124_22 : decode (mB 124) 22 = .ok (.getfield 10, 3) := by decide +kernel
theorem f_124_25 : decode (mB 124) 25 = .ok (.getfield 206, 3) := by decide +kernel
theorem f_124_28 : decode (mB 124) 28 = .ok (.iload_n 1, 1) := by decide +kernel
theorem f_124_29 : decode (mB 124) 29 = .ok (.aaload, 1) := by decide +kernel
theorem f_124_30 : decode (mB 124) 30 = .ok (.iconst 2, 1) := by decide +kernel
theorem f_124_31 : decode (mB 124) 31 = .ok (.iload_n 2, 1) := by decide +kernel
theorem f_124_32 : decode (mB 124) 32 = .ok (.iload_n 3, 1) := by decide +kernel
theorem f_124_33 : decode (mB 124) 33 = .ok (.invokevirtual 304, 3) := by decide +kernel
theorem f_124_36 : decode (mB 124) 36 = .ok (.ireturn, 1) := by decide +kernel
theorem f_125_0 : decode (mB 125) 0 = .ok (.aload_n 0, 1) := by decide +kernel
theorem f_125_1 : decode (mB 125) 1 = .ok (.getfield 10, 3) := by decide +kernel
theorem f_125_4 : decode (mB 125) 4 = .ok (.iload_n 1, 1) := by decide +kernel
theorem f_125_5 : decode (mB 125) 5 = .ok (.invokevirtual 159, 3) := by decide +kernel
theorem f_125_8 : decode (mB 125) 8 = .ok (.ifCond .eq 17, 3) := by decide +kernel
theorem f_125_11 : decode (mB 125) 11 = .ok (.iload_n 2, 1) := by decide +kernel
theorem f_125_12 : decode (mB 125) 12 = .ok (.invokestatic 255, 3) := by decide +kernel
theorem f_125_15 : decode (mB 125) 15 = .ok (.ifCond .eq 10, 3) := by decide +kernel
theorem f_125_18 : decode (mB 125) 18 = .ok (.iload_n 3, 1) := by decide +kernel
theorem f_125_19 : decode (mB 125) 19 = .ok (.invokestatic 262, 3) := by decide +kernel
theorem f_125_22 : decode (mB 125) 22 = .ok (.ifCond .ne 10, 3) := by decide +kernel
theorem f_125_25 : decode (mB 125) 25 = .ok (.aload_n 0, 1) := by decide +kernel
theorem f_125_26 : decode (mB 125) 26 = .ok (.ldc 83, 2) := by decide +kernel
theorem f_125_28 : decode (mB 125) 28 = .ok (.invokevirtual 84, 3) := by decide +kernel
theorem f_125_31 : decode (mB 125) 31 = .ok (.ireturn, 1) := by decide +kernel
theorem f_125_32 : decode (mB 125) 32 = .ok (.aload_n 0, 1) := by decide +kernel
theorem f_125_33 : decode (mB 125) 33 = .ok (.getfield 24, 3) := by decide +kernel
theorem f_125_36 : decode (mB 125) 36 = .ok (.aload_n 0, 1) := by decide +kernel
theorem f_125_37 : decode (mB 125) 37 = .ok (.getfield 10, 3) := by decide +kernel
theorem f_125_40 : decode (mB 125) 40 = .ok (.getfield 150, 3) := by decide +kernel
theorem f_125_43 : decode (mB 125) 43 = .ok (.iload_n 1, 1) := by decide +kernel
theorem f_125_44 : decode (mB 125) 44 = .ok (.aaload, 1) := by decide +kernel
theorem f_125_45 : decode (mB 125) 45 = .ok (.iload_n 2, 1) := by decide +kernel
theorem f_125_46 : decode (mB 125) 46 = .ok (.iload_n 3, 1) := by decide +kernel
theorem f_125_47 : decode (mB 125) 47 = .ok (.invokevirtual 308, 3) := by decide +kernel
theorem f_125_50 : decode (mB 125) 50 = .ok (.invokestatic 172, 3) := by decide +kernel
theorem f_125_53 : decode (mB 125) 53 = .ok (.ireturn, 1) := by decide +kernel
theorem f_126_0 : decode (mB 126) 0 = .ok (.aload_n 0, 1) := by decide +kernel
theorem f_126_1 : decode (mB 126) 1 = .ok (.getfield 11, 3) := by decide +kernel
theorem f_126_4 : decode (mB 126) 4 = .ok (.iconst 0, 1) := by decide +kernel
theorem f_126_5 : decode (mB 126) 5 = .ok (.invokestatic 34, 3) := by decide +kernel
theorem f_126_8 : decode (mB 126) 8 = .ok (.aload_n 0, 1) := by decide +kernel
theorem f_126_9 : decode (mB 126) 9 = .ok (.getfield 11, 3) := by decide +kernel
theorem f_126_12 : decode (mB 126) 12 = .ok (.iconst 2, 1) := by decide +kernel
theorem f_126_13 : decode (mB 126) 13 = .ok (.aload_n 0, 1) := by decide +kernel
theorem f_126_14 : decode (mB 126) 14 = .ok (.getfield 20, 3) := by decide +kernel
theorem f_126_17 : decode (mB 126) 17 = .ok (.iload_n 2, 1) := by decide +kernel
theorem f_126_18 : decode (mB 126) 18 = .ok (.iload_n 3, 1) := by decide +kernel
theorem f_126_19 : decode (mB 126) 19 = .ok (.invokevirtual 40, 3) := by decide +kernel
theorem f_126_22 : decode (mB 126) 22 = .ok (.iastore, 1) := by decide +kernel
theorem f_126_23 : decode (mB 126) 23 = .ok (.aload_n 0, 1) := by decide +kernel
theorem f_126_24 : decode (mB 126) 24 = .ok (.getfield 11, 3) := by decide +kernel
theorem f_126_27 : decode (mB 126) 27 = .ok (.bipush 8, 2) := by decide +kernel
theorem f_126_29 : decode (mB 126) 29 = .ok (.aload_n 0, 1) := by decide +kernel
theorem f_126_30 : decode (mB 126) 30 = .ok (.getfield 20, 3) := by decide +kernel
theorem f_126_33 : decode (mB 126) 33 = .ok (.getfield 46, 3) := by decide +kernel
theorem f_126_36 : decode (mB 126) 36 = .ok (.aload_n 1, 1) := by decide +kernel
theorem f_126_37 : decode (mB 126) 37 = .ok (.getfield 50, 3) := by decide +kernel
theorem f_126_40 : decode (mB 126) 40 = .ok (.aaload, 1) := by decide +kernel
theorem f_126_41 : decode (mB 126) 41 = .ok (.getfield 55, 3) := by decide +kernel
theorem f_126_44 : decode (mB 126) 44 = .ok (.invokestatic 61, 3) := by decide +kernel
theorem f_126_47 : decode (mB 126) 47 = .ok (.iastore, 1) := by decide +kernel
theorem f_126_48 : decode (mB 126) 48 = .ok (.aload_n 0, 1) := by decide +kernel
theorem f_126_49 : decode (mB 126) 49 = .ok (.aload_n 1, 1) := by decide +kernel
theorem f_126_50 : decode (mB 126) 50 = .ok (.invokevirtual 65, 3) := by decide +kernel
theorem f_126_53 : decode (mB 126) 53 = .ok (.aload_n 0, 1) := by decide +kernel
theorem f_126_54 : decode (mB 126) 54 = .ok (.iconst 1, 1) := by decide +kernel
theorem f_126_55 : decode (mB 126) 55 = .ok (.iload_n 2, 1) := by decide +kernel
theorem f_126_56 : decode (mB 126) 56 = .ok (.iload_n 3, 1) := by decide +kernel
theorem f_126_57 : decode (mB 126) 57 = .ok (.invokevirtual 69, 3) := by decide +kernel
theorem f_126_60 : decode (mB 126) 60 = .ok (.ifCond .eq 27, 3) := by decide +kernel
theorem f_126_63 : decode (mB 126) 63 = .ok (.aload_n 0, 1) := by decide +kernel
theorem f_126_64 : decode (mB 126) 64 = .ok (.getfield 20, 3) := by decide +kernel
theorem f_126_67 : decode (mB 126) 67 = .ok (.aload_n 1, 1) := by decide +kernel
theorem f_126_68 : decode (mB 126) 68 = .ok (.getfield 73, 3) := by decide +kernel
theorem f_126_71 : decode (mB 126) 71 = .ok (.invokevirtual 76, 3) := by decide +kernel
theorem f_126_74 : decode (mB 126) 74 = .ok (.iconst 1, 1) := by decide +kernel
theorem f_126_75 : decode (mB 126) 75 = .ok (.aload_n 1, 1) := by decide +kernel
theorem f_126_76 : decode (mB 126) 76 = .ok (.getfield 50, 3) := by decide +kernel
theorem f_126_79 : decode (mB 126) 79 = .ok (.ishl, 1) := by decide +kernel
theorem f_126_80 : decode (mB 126) 80 = .ok (.if_icmp .eq 7, 3) := by decide +kernel
theorem f_126_83 : decode (mB 126) 83 = .ok (.iconst 1, 1) := by decide +kernel
theorem f_126_84 : decode (mB 126) 84 = .ok (.goto 4, 3) := by decide +kernel
theorem f_126_87 : decode (mB 126) 87 = .ok (.iconst 0, 1) := by decide +kernel
theorem f_126_88 : decode (mB 126) 88 = .ok (.ireturn, 1) := by decide +kernel
theorem f_127_0 : decode (mB 127) 0 = .ok (.aload_n 0, 1) := by decide +kernel
theorem f_127_1 : decode (mB 127) 1 = .ok (.iload_n 1, 1) := by decide +kernel
theorem f_127_2 : decode (mB 127) 2 = .ok (.iload_n 2, 1) := by decide +kernel
theorem f_127_3 : decode (mB 127) 3 = .ok (.iload_n 3, 1) := by decide +kernel
theorem f_127_4 : decode (mB 127) 4 = .ok (.invokevirtual 301, 3) := by decide +kernel
theorem f_127_7 : decode (mB 127) 7 = .ok (.ifCond .ne 10, 3) := by decide +kernel
theorem f_127_10 : decode (mB 127) 10 = .ok (.aload_n 0, 1) := by decide +kernel
theorem f_127_11 : decode (mB 127) 11 = .ok (.ldc 83, 2) := by decide +kernel
theorem f_127_13 : decode (mB 127) 13 = .ok (.invokevirtual 84, 3) := by decide +kernel
theorem f_127_16 : decode (mB 127) 16 = .ok (.ireturn, 1) := by decide +kernel
theorem f_127_17 : decode (mB 127) 17 = .ok (.aload_n 0, 1) := by decide +kernel
theorem f_127_18 : decode (mB 127) 18 = .ok (.getfield 24, 3) := by decide +kernel
theorem f_127_21 : decode (mB 127) 21 = .ok (.aload_n 0, 1) := by decide +kernel
theorem f_127_22 : decode (mB 127) 22 = .ok (.getfield 10, 3) := by decide +kernel
theorem f_127_25 : decode (mB 127) 25 = .ok (.getfield 206, 3) := by decide +kernel
theorem f_127_28 : decode (mB 127) 28 = .ok (.iload_n 1, 1) := by decide +kernel
theorem f_127_29 : decode (mB 127) 29 = .ok (.aaload, 1) := by decide +kernel
theorem f_127_30 : decode (mB 127) 30 = .ok (.iload_n 2, 1) := by decide +kernel
theorem f_127_31 : decode (mB 127) 31 = .ok (.iload_n 3, 1) := by decide +kernel
theorem f_127_32 : decode (mB 127) 32 = .ok (.invokevirtual 312, 3) := by decide +kernel
theorem f_127_35 : decode (mB 127) 35 = .ok (.ireturn, 1) := by decide +kernel
theorem f_128_0 : decode (mB 128) 0 = .ok (.iconst 0, 1) := by decide +kernel
theorem f_128_1 : decode (mB 128) 1 = .ok (.istore 4, 2) := by decide +kernel
theorem f_128_3 : decode (mB 128) 3 = .ok (.iconst 0, 1) := by decide +kernel
theorem f_128_4 : decode (mB 128) 4 = .ok (.istore 5, 2) := by decide +kernel
theorem f_128_6 : decode (mB 128) 6 = .ok (.iload 5, 2) := by decide +kernel
theorem f_128_8 : decode (mB 128) 8 = .ok (.bipush 7, 2) := by decide +kernel
theorem f_128_10 : decode (mB 128) 10 = .ok (.if_icmp .ge 38, 3) := by decide +kernel
theorem f_128_13 : decode (mB 128) 13 = .ok (.iload 4, 2) := by decide +kernel
theorem f_128_15 : decode (mB 128) 15 = .ok (.aload_n 0, 1) := by decide +kernel
theorem f_128_16 : decode (mB 128) 16 = .ok (.aload_n 1, 1) := by decide +kernel
theorem f_128_17 : decode (mB 128) 17 = .ok (.iload 5, 2) := by decide +kernel
theorem f_128_19 : decode (mB 128) 19 = .ok (.iconst 0, 1) := by decide +kernel
theorem f_128_20 : decode (mB 128) 20 = .ok (.iload_n 2, 1) := by decide +kernel
theorem f_128_21 : decode (mB 128) 21 = .ok (.iload_n 3, 1) := by decide +kernel
theorem f_128_22 : decode (mB 128) 22 = .ok (.invokevirtual 30, 3) := by decide +kernel
theorem f_128_25 : decode (mB 128) 25 = .ok (.ifCond .ne 7, 3) := by decide +kernel
theorem f_128_28 : decode (mB 128) 28 = .ok (.iconst 1, 1) := by decide +kernel
theorem f_128_29 : decode (mB 128) 29 = .ok (.goto 4, 3) := by decide +kernel
theorem f_128_32 : decode (mB 128) 32 = .ok (.iconst 0, 1) := by decide +kernel
theorem f_128_33 : decode (mB 128) 33 = .ok (.invokestatic 61, 3) := by decide +kernel
theorem f_128_36 : decode (mB 128) 36 = .ok (.iload 5, 2) := by decide +kernel
theorem f_128_38 : decode (mB 128) 38 = .ok (.ishl, 1) := by decide +kernel
theorem f_128_39 : decode (mB 128) 39 = .ok (.ior, 1) := by decide +kernel
theorem f_128_40 : decode (mB 128) 40 = .ok (.istore 4, 2) := by decide +kernel
theorem f_128_42 : decode (mB 128) 42 = .ok (.iinc 5 1, 3) := by decide +kernel
theorem f_128_45 : decode (mB 128) 45 = .ok (.goto (-39), 3) := by decide +kernel
theorem f_128_48 : decode (mB 128) 48 = .ok (.iload 4, 2) := by decide +kernel
theorem f_128_50 : decode (mB 128) 50 = .ok (.ireturn, 1) := by decide +kernel
theorem f_129_0 : decode (mB 129) 0 = .ok (.aload_n 0, 1) := by decide +kernel
theorem f_129_1 : decode (mB 129) 1 = .ok (.getfield 10, 3) := by decide +kernel
theorem f_129_4 : decode (mB 129) 4 = .ok (.iload_n 1, 1) := by decide +kernel
theorem f_129_5 : decode (mB 129) 5 = .ok (.invokevirtual 159, 3) := by decide +kernel
theorem f_129_8 : decode (mB 129) 8 = .ok (.ifCond .eq 10, 3) := by decide +kernel
theorem f_129_11 : decode (mB 129) 11 = .ok (.iload_n 2, 1) := by decide +kernel
theorem f_129_12 : decode (mB 129) 12 = .ok (.invokestatic 255, 3) := by decide +kernel
theorem f_129_15 : decode (mB 129) 15 = .ok (.ifCond .ne 10, 3) := by decide +kernel
theorem f_129_18 : decode (mB 129) 18 = .ok (.aload_n 0, 1) := by decide +kernel
theorem f_129_19 : decode (mB 129) 19 = .ok (.ldc 83, 2) := by decide +kernel
theorem f_129_21 : decode (mB 129) 21 = .ok (.invokevirtual 84, 3) := by decide +kernel
theorem f_129_24 : decode (mB 129) 24 = .ok (.ireturn, 1) := by decide +kernel
theorem f_129_25 : decode (mB 129) 25 = .ok (.aload_n 0, 1) := by decide +kernel
theorem f_129_26 : decode (mB 129) 26 = .ok (.getfield 10, 3) := by decide +kernel
theorem f_129_29 : decode (mB 129) 29 = .ok (.getfield 150, 3) := by decide +kernel
theorem f_129_32 : decode (mB 129) 32 = .ok (.iload_n 1, 1) := by decide +kernel
theorem f_129_33 : decode (mB 129) 33 = .ok (.aaload, 1) := by decide +kernel
theorem f_129_34 : decode (mB 129) 34 = .ok (.getfield 162, 3) := by decide +kernel
theorem f_129_37 : decode (mB 129) 37 = .ok (.aload_n 0, 1) := by decide +kernel
theorem f_129_38 : decode (mB 129) 38 = .ok (.getfield 10, 3) := by decide +kernel
theorem f_129_41 : decode (mB 129) 41 = .ok (.iload_n 2, 1) := by decide +kernel
theorem f_129_42 : decode (mB 129) 42 = .ok (.aload_n 0, 1) := by decide +kernel
theorem f_129_43 : decode (mB 129) 43 = .ok (.getfield 10, 3) := by decide +kernel
theorem f_129_46 : decode (mB 129) 46 = .ok (.getfield 66, 3) := by decide +kernel
theorem f_129_49 : decode (mB 129) 49 = .ok (.invokevirtual 265, 3) := by decide +kernel
theorem f_129_52 : decode (mB 129) 52 = .ok (.imul, 1) := by decide +kernel
theorem f_129_53 : decode (mB 129) 53 = .ok (.ireturn, 1) := by decide +kernel
theorem f_130_0 : decode (mB 130) 0 = .ok (.iload_n 1, 1) := by decide +kernel
theorem f_130_1 : decode (mB 130) 1 = .ok (.invokestatic 316, 3) := by decide +kernel
theorem f_130_4 : decode (mB 130) 4 = .ok (.ifCond .ne 10, 3) := by decide +kernel
theorem f_130_7 : decode (mB 130) 7 = .ok (.aload_n 0, 1) := by decide +kernel
theorem f_130_8 : decode (mB 130) 8 = .ok (.ldc 83, 2) := by decide +kernel
theorem f_130_10 : decode (mB 130) 10 = .ok (.invokevirtual 84, 3) := by decide +kernel
theorem f_130_13 : decode (mB 130) 13 = .ok (.ireturn, 1) := by decide +kernel
theorem f_130_14 : decode (mB 130) 14 = .ok (.aload_n 0, 1) := by decide +kernel
theorem f_130_15 : decode (mB 130) 15 = .ok (.getfield 10, 3) := by decide +kernel
theorem f_130_18 : decode (mB 130) 18 = .ok (.getfield 66, 3) := by decide +kernel
theorem f_130_21 : decode (mB 130) 21 = .ok (.sipush 400, 3) := by decide +kernel
theorem f_130_24 : decode (mB 130) 24 = .ok (.if_icmp .ge 14, 3) := by decide +kernel
theorem f_130_27 : decode (mB 130) 27 = .ok (.aload_n 0, 1) := by decide +kernel
theorem f_130_28 : decode (mB 130) 28 = .ok (.getfield 33, 3) := by decide +kernel
theorem f_130_31 : decode (mB 130) 31 = .ok (.iload_n 1, 1) := by decide +kernel
theorem f_130_32 : decode (mB 130) 32 = .ok (.invokevirtual 319, 3) := by decide +kernel
theorem f_130_35 : decode (mB 130) 35 = .ok (.goto 9, 3) := by decide +kernel
theorem f_130_38 : decode (mB 130) 38 = .ok (.aload_n 0, 1) := by decide +kernel
theorem f_130_39 : decode (mB 130) 39 = .ok (.ldc 91, 2) := by decide +kernel
theorem f_130_41 : decode (mB 130) 41 = .ok (.invokevirtual 84, 3) := by decide +kernel
theorem f_130_44 : decode (mB 130) 44 = .ok (.ireturn, 1) := by decide +kernel
theorem f_131_0 : decode (mB 131) 0 = .ok (.iload_n 0, 1) := by decide +kernel
theorem f_131_1 : decode (mB 131) 1 = .ok (.iconst 0, 1) := by decide +kernel
theorem f_131_2 : decode (mB 131) 2 = .ok (.bipush 30, 2) := by decide +kernel
theorem f_131_4 : decode (mB 131) 4 = .ok (.invokestatic 75, 3) := by decide +kernel
theorem f_131_7 : decode (mB 131) 7 = .ok (.ireturn, 1) := by decide +kernel
theorem f_132_0 : decode (mB 132) 0 = .ok (.iconst 0, 1) := by decide +kernel
theorem f_132_1 : decode (mB 132) 1 = .ok (.istore_n 2, 1) := by decide +kernel
theorem f_132_2 : decode (mB 132) 2 = .ok (.iload_n 2, 1) := by decide +kernel
theorem f_132_3 : decode (mB 132) 3 = .ok (.aload_n 0, 1) := by decide +kernel
theorem f_132_4 : decode (mB 132) 4 = .ok (.getfield 9, 3) := by decide +kernel
theorem f_132_7 : decode (mB 132) 7 = .ok (.getfield 19, 3) := by decide +kernel
theorem f_132_10 : decode (mB 132) 10 = .ok (.if_icmp .ge 45, 3) := by decide +kernel
theorem f_132_13 : decode (mB 132) 13 = .ok (.aload_n 0, 1) := by decide +kernel
theorem f_132_14 : decode (mB 132) 14 = .ok (.getfield 9, 3) := by decide +kernel
theorem f_132_17 : decode (mB 132) 17 = .ok (.aload_n 0, 1) := by decide +kernel
theorem f_132_18 : decode (mB 132) 18 = .ok (.getfield 9, 3) := by decide +kernel
theorem f_132_21 : decode (mB 132) 21 = .ok (.getfield 25, 3) := by decide +kernel
theorem f_132_24 : decode (mB 132) 24 = .ok (.iload_n 2, 1) := by decide +kernel
theorem f_132_25 : decode (mB 132) 25 = .ok (.aaload, 1) := by decide +kernel
theorem f_132_26 : decode (mB 132) 26 = .ok (.getfield 29, 3) := by decide +kernel
theorem f_132_29 : decode (mB 132) 29 = .ok (.aload_n 0, 1) := by decide +kernel
theorem f_132_30 : decode (mB 132) 30 = .ok (.getfield 9, 3) := by decide +kernel
theorem f_132_33 : decode (mB 132) 33 = .ok (.getfield 25, 3) := by decide +kernel
theorem f_132_36 : decode (mB 132) 36 = .ok (.iload_n 2, 1) := by decide +kernel
theorem f_132_37 : decode (mB 132) 37 = .ok (.aaload, 1) := by decide +kernel
theorem f_132_38 : decode (mB 132) 38 = .ok (.getfield 34, 3) := by decide +kernel
theorem f_132_41 : decode (mB 132) 41 = .ok (.iload_n 1, 1) := by decide +kernel
theorem f_132_42 : decode (mB 132) 42 = .ok (.imul, 1) := by decide +kernel
theorem f_132_43 : decode (mB 132) 43 = .ok (.bipush 10, 2) := by decide +kernel
theorem f_132_45 : decode (mB 132) 45 = .ok (.idiv, 1) := by decide +kernel
theorem f_132_46 : decode (mB 132) 46 = .ok (.invokevirtual 37, 3) := by decide +kernel
theorem f_132_49 : decode (mB 132) 49 = .ok (.iinc 2 1, 3) := by decide +kernel
theorem f_132_52 : decode (mB 132) 52 = .ok (.goto (-50), 3) := by decide +kernel
theorem f_132_55 : decode (mB 132) 55 = .ok (.iconst 0, 1) := by decide +kernel
theorem f_132_56 : decode (mB 132) 56 = .ok (.istore_n 2, 1) := by decide +kernel
theorem f_132_57 : decode (mB 132) 57 = .ok (.iconst 0, 1) := by decide +kernel
theorem f_132_58 : decode (mB 132) 58 = .ok (.istore_n 3, 1) := by decide +kernel
theorem f_132_59 : decode (mB 132) 59 = .ok (.iload_n 3, 1) := by decide +kernel
theorem f_132_60 : decode (mB 132) 60 = .ok (.aload_n 0, 1) := by decide +kernel
theorem f_132_61 : decode (mB 132) 61 = .ok (.getfield 9, 3) := by decide +kernel
theorem f_132_64 : decode (mB 132) 64 = .ok (.getfield 41, 3) := by decide +kernel
theorem f_132_67 : decode (mB 132) 67 = .ok (.if_icmp .ge 32, 3) := by decide +kernel
theorem f_132_70 : decode (mB 132) 70 = .ok (.aload_n 0, 1) := by decide +kernel
theorem f_132_71 : decode (mB 132) 71 = .ok (.getfield 9, 3) := by decide +kernel
theorem f_132_74 : decode (mB 132) 74 = .ok (.getfield 44, 3) := by decide +kernel
theorem f_132_77 : decode (mB 132) 77 = .ok (.iload_n 3, 1) := by decide +kernel
theorem f_132_78 : decode (mB 132) 78 = .ok (.aaload, 1) := by decide +kernel
theorem f_132_79 : decode (mB 132) 79 = .ok (.invokevirtual 48, 3) := by decide +kernel
theorem f_132_82 : decode (mB 132) 82 = .ok (.ifCond .ne 11, 3) := by decide +kernel
theorem f_132_85 : decode (mB 132) 85 = .ok (.iload_n 2, 1) := by decide +kernel
theorem f_132_86 : decode (mB 132) 86 = .ok (.aload_n 0, 1) := by decide +kernel
theorem f_132_87 : decode (mB 132) 87 = .ok (.iload_n 3, 1) := by decide +kernel
theorem f_132_88 : decode (mB 132) 88 = .ok (.invokevirtual 54, 3) := by decide +kernel
theorem f_132_91 : decode (mB 132) 91 = .ok (.iadd, 1) := by decide +kernel
theorem f_132_92 : decode (mB 132) 92 = .ok (.istore_n 2, 1) := by decide +kernel
theorem f_132_93 : decode (mB 132) 93 = .ok (.iinc 3 1, 3) := by decide +kernel
theorem f_132_96 : decode (mB 132) 96 = .ok (.goto (-37), 3) := by decide +kernel
theorem f_132_99 : decode (mB 132) 99 = .ok (.iconst 0, 1) := by decide +kernel
theorem f_132_100 : decode (mB 132) 100 = .ok (.istore_n 3, 1) := by decide +kernel
theorem f_132_101 : decode (mB 132) 101 = .ok (.iload_n 3, 1) := by decide +kernel
theorem f_132_102 : decode (mB 132) 102 = .ok (.aload_n 0, 1) := by decide +kernel
theorem f_132_103 : decode (mB 132) 103 = .ok (.getfield 9, 3) := by decide +kernel
theorem f_132_106 : decode (mB 132) 106 = .ok (.getfield 58, 3) := by decide +kernel
theorem f_132_109 : decode (mB 132) 109 = .ok (.if_icmp .ge 49, 3) := by decide +kernel
theorem f_132_112 : decode (mB 132) 112 = .ok (.aload_n 0, 1) := by decide +kernel
theorem f_132_113 : decode (mB 132) 113 = .ok (.getfield 9, 3) := by decide +kernel
theorem f_132_116 : decode (mB 132) 116 = .ok (.getfield 61, 3) := by decide +kernel
theorem f_132_119 : decode (mB 132) 119 = .ok (.iload_n 3, 1) := by decide +kernel
theorem f_132_120 : decode (mB 132) 120 = .ok (.aaload, 1) := by decide +kernel
theorem f_132_121 : decode (mB 132) 121 = .ok (.astore 4, 2) := by decide +kernel
theorem f_132_123 : decode (mB 132) 123 = .ok (.aload 4, 2) := by decide +kernel
theorem f_132_125 : decode (mB 132) 125 = .ok (.getfield 65, 3) := by decide +kernel
theorem f_132_128 : decode (mB 132) 128 = .ok (.ifCond .ne 24, 3) := by decide +kernel
theorem f_132_131 : decode (mB 132) 131 = .ok (.aload 4, 2) := by decide +kernel
theorem f_132_133 : decode (mB 132) 133 = .ok (.getfield 70, 3) := by decide +kernel
theorem f_132_136 : decode (mB 132) 136 = .ok (.aload_n 0, 1) := by decide +kernel
theorem f_132_137 : decode (mB 132) 137 = .ok (.getfield 9, 3) := by decide +kernel
theorem f_132_140 : decode (mB 132) 140 = .ok (.getfield 73, 3) := by decide +kernel
theorem f_132_143 : decode (mB 132) 143 = .ok (.if_icmp .gt 9, 3) := by decide +kernel
theorem f_132_146 : decode (mB 132) 146 = .ok (.aload_n 0, 1) := by decide +kernel
theorem f_132_147 : decode (mB 132) 147 = .ok (.aload 4, 2) := by decide +kernel
theorem f_132_149 : decode (mB 132) 149 = .ok (.invokevirtual 76, 3) := by decide +kernel
theorem f_132_152 : decode (mB 132) 152 = .ok (.iinc 3 1, 3) := by decide +kernel
theorem f_132_155 : decode (mB 132) 155 = .ok (.goto (-54), 3) := by decide +kernel
theorem f_132_158 : decode (mB 132) 158 = .ok (.aload_n 0, 1) := by decide +kernel
theorem f_132_159 : decode (mB 132) 159 = .ok (.getfield 9, 3) := by decide +kernel
theorem f_132_162 : decode (mB 132) 162 = .ok (.dup, 1) := by decide +kernel
theorem f_132_163 : decode (mB 132) 163 = .ok (.getfield 73, 3) := by decide +kernel
theorem f_132_166 : decode (mB 132) 166 = .ok (.iconst 1, 1) := by decide +kernel
theorem f_132_167 : decode (mB 132) 167 = .ok (.iadd, 1) := by decide +kernel
theorem f_132_168 : decode (mB 132) 168 = .ok (.putfield 73, 3) := by decide +kernel
theorem f_132_171 : decode (mB 132) 171 = .ok (.aload_n 0, 1) := by decide +kernel
theorem f_132_172 : decode (mB 132) 172 = .ok (.getfield 9, 3) := by decide +kernel
theorem f_132_175 : decode (mB 132) 175 = .ok (.iconst 0, 1) := by decide +kernel
theorem f_132_176 : decode (mB 132) 176 = .ok (.aload_n 0, 1) := by decide +kernel
theorem f_132_177 : decode (mB 132) 177 = .ok (.getfield 9, 3) := by decide +kernel
theorem f_132_180 : decode (mB 132) 180 = .ok (.getfield 73, 3) := by decide +kernel
theorem f_132_183 : decode (mB 132) 183 = .ok (.invokevirtual 80, 3) := by decide +kernel
theorem f_132_186 : decode (mB 132) 186 = .ok (.ifCond .ne 7, 3) := by decide +kernel
theorem f_132_189 : decode (mB 132) 189 = .ok (.aload_n 0, 1) := by decide +kernel
theorem f_132_190 : decode (mB 132) 190 = .ok (.invokevirtual 84, 3) := by decide +kernel
theorem f_132_193 : decode (mB 132) 193 = .ok (.iload_n 2, 1) := by decide +kernel
theorem f_132_194 : decode (mB 132) 194 = .ok (.ireturn, 1) := by decide +kernel
theorem f_133_0 : decode (mB 133) 0 = .ok (.aload_n 0, 1) := by decide +kernel
theorem f_133_1 : decode (mB 133) 1 = .ok (.getfield 9, 3) := by decide +kernel
theorem f_133_4 : decode (mB 133) 4 = .ok (.getfield 44, 3) := by decide +kernel
theorem f_133_7 : decode (mB 133) 7 = .ok (.iload_n 1, 1) := by decide +kernel
theorem f_133_8 : decode (mB 133) 8 = .ok (.aaload, 1) := by decide +kernel
theorem f_133_9 : decode (mB 133) 9 = .ok (.astore_n 2, 1) := by decide +kernel
theorem f_133_10 : decode (mB 133) 10 = .ok (.iconst 0, 1) := by decide +kernel
theorem f_133_11 : decode (mB 133) 11 = .ok (.bipush 10, 2) := by decide +kernel
theorem f_133_13 : decode (mB 133) 13 = .ok (.aload_n 2, 1) := by decide +kernel
theorem f_133_14 : decode (mB 133) 14 = .ok (.getfield 87, 3) := by decide +kernel
theorem f_133_17 : decode (mB 133) 17 = .ok (.isub, 1) := by decide +kernel
theorem f_133_18 : decode (mB 133) 18 = .ok (.invokestatic 90, 3) := by decide +kernel
theorem f_133_21 : decode (mB 133) 21 = .ok (.istore_n 3, 1) := by decide +kernel
theorem f_133_22 : decode (mB 133) 22 = .ok (.iload_n 3, 1) := by decide +kernel
theorem f_133_23 : decode (mB 133) 23 = .ok (.ifCond .le 14, 3) := by decide +kernel
theorem f_133_26 : decode (mB 133) 26 = .ok (.aload_n 0, 1) := by decide +kernel
theorem f_133_27 : decode (mB 133) 27 = .ok (.iload_n 1, 1) := by decide +kernel
theorem f_133_28 : decode (mB 133) 28 = .ok (.iload_n 3, 1) := by decide +kernel
theorem f_133_29 : decode (mB 133) 29 = .ok (.invokevirtual 95, 3) := by decide +kernel
theorem f_133_32 : decode (mB 133) 32 = .ok (.ifCond .eq 5, 3) := by decide +kernel
theorem f_133_35 : decode (mB 133) 35 = .ok (.iconst 0, 1) := by decide +kernel
theorem f_133_36 : decode (mB 133) 36 = .ok (.istore_n 3, 1) := by decide +kernel
theorem f_133_37 : decode (mB 133) 37 = .ok (.aload_n 2, 1) := by decide +kernel
theorem f_133_38 : decode (mB 133) 38 = .ok (.iconst 0, 1) := by decide +kernel
theorem f_133_39 : decode (mB 133) 39 = .ok (.aload_n 2, 1) := by decide +kernel
theorem f_133_40 : decode (mB 133) 40 = .ok (.getfield 87, 3) := by decide +kernel
theorem f_133_43 : decode (mB 133) 43 = .ok (.bipush 10, 2) := by decide +kernel
theorem f_133_45 : decode (mB 133) 45 = .ok (.isub, 1) := by decide +kernel
theorem f_133_46 : decode (mB 133) 46 = .ok (.invokestatic 90, 3) := by decide +kernel
theorem f_133_49 : decode (mB 133) 49 = .ok (.putfield 87, 3) := by decide +kernel
theorem f_133_52 : decode (mB 133) 52 = .ok (.aload_n 2, 1) := by decide +kernel
theorem f_133_53 : decode (mB 133) 53 = .ok (.dup, 1) := by decide +kernel
theorem f_133_54 : decode (mB 133) 54 = .ok (.getfield 99, 3) := by decide +kernel
theorem f_133_57 : decode (mB 133) 57 = .ok (.iload_n 3, 1) := by decide +kernel
theorem f_133_58 : decode (mB 133) 58 = .ok (.iadd, 1) := by decide +kernel
theorem f_133_59 : decode (mB 133) 59 = .ok (.putfield 99, 3) := by decide +kernel
theorem f_133_62 : decode (mB 133) 62 = .ok (.aload_n 0, 1) := by decide +kernel
theorem f_133_63 : decode (mB 133) 63 = .ok (.getfield 9, 3) := by decide +kernel
theorem f_133_66 : decode (mB 133) 66 = .ok (.dup, 1) := by decide +kernel
theorem f_133_67 : decode (mB 133) 67 = .ok (.getfield 102, 3) := by decide +kernel
theorem f_133_70 : decode (mB 133) 70 = .ok (.bipush 10, 2) := by decide +kernel
theorem f_133_72 : decode (mB 133) 72 = .ok (.iload_n 3, 1) := by decide +kernel
theorem f_133_73 : decode (mB 133) 73 = .ok (.isub, 1) := by decide +kernel
theorem f_133_74 : decode (mB 133) 74 = .ok (.iadd, 1) := by decide +kernel
theorem f_133_75 : decode (mB 133) 75 = .ok (.putfield 102, 3) := by decide +kernel
theorem f_133_78 : decode (mB 133) 78 = .ok (.iload_n 3, 1) := by decide +kernel
theorem f_133_79 : decode (mB 133) 79 = .ok (.ireturn, 1) := by decide +kernel
theorem f_134_0 : decode (mB 134) 0 = .ok (.aload_n 0, 1) := by decide +kernel
theorem f_134_1 : decode (mB 134) 1 = .ok (.iload_n 1, 1) := by decide +kernel
theorem f_134_2 : decode (mB 134) 2 = .ok (.iload_n 2, 1) := by decide +kernel
theorem f_134_3 : decode (mB 134) 3 = .ok (.invokevirtual 105, 3) := by decide +kernel
theorem f_134_6 : decode (mB 134) 6 = .ok (.istore_n 3, 1) := by decide +kernel
theorem f_134_7 : decode (mB 134) 7 = .ok (.iload_n 3, 1) := by decide +kernel
theorem f_134_8 : decode (mB 134) 8 = .ok (.ifCond .lt 15, 3) := by decide +kernel
theorem f_134_11 : decode (mB 134) 11 = .ok (.aload_n 0, 1) := by decide +kernel
theorem f_134_12 : decode (mB 134) 12 = .ok (.getfield 9, 3) := by decide +kernel
theorem f_134_15 : decode (mB 134) 15 = .ok (.getfield 58, 3) := by decide +kernel
theorem f_134_18 : decode (mB 134) 18 = .ok (.bipush 20, 2) := by decide +kernel
theorem f_134_20 : decode (mB 134) 20 = .ok (.if_icmp .lt 5, 3) := by decide +kernel
theorem f_134_23 : decode (mB 134) 23 = .ok (.iconst 0, 1) := by decide +kernel
theorem f_134_24 : decode (mB 134) 24 = .ok (.ireturn, 1) := by decide +kernel
theorem f_134_25 : decode (mB 134) 25 = .ok (.aload_n 0, 1) := by decide +kernel
theorem f_134_26 : decode (mB 134) 26 = .ok (.getfield 9, 3) := by decide +kernel
theorem f_134_29 : decode (mB 134) 29 = .ok (.getfield 44, 3) := by decide +kernel
theorem f_134_32 : decode (mB 134) 32 = .ok (.iload_n 3, 1) := by decide +kernel
theorem f_134_33 : decode (mB 134) 33 = .ok (.aaload, 1) := by decide +kernel
theorem f_134_34 : decode (mB 134) 34 = .ok (.dup, 1) := by decide +kernel
theorem f_134_35 : decode (mB 134) 35 = .ok (.getfield 87, 3) := by decide +kernel
theorem f_134_38 : decode (mB 134) 38 = .ok (.iload_n 2, 1) := by decide +kernel
theorem f_134_39 : decode (mB 134) 39 = .ok (.isub, 1) := by decide +kernel
theorem f_134_40 : decode (mB 134) 40 = .ok (.putfield 87, 3) := by decide +kernel
theorem f_134_43 : decode (mB 134) 43 = .ok (.sipush 400, 3) := by decide +kernel
theorem f_134_46 : decode (mB 134) 46 = .ok (.aload_n 0, 1) := by decide +kernel
theorem f_134_47 : decode (mB 134) 47 = .ok (.getfield 9, 3) := by decide +kernel
theorem f_134_50 : decode (mB 134) 50 = .ok (.getfield 73, 3) := by decide +kernel
theorem f_134_53 : decode (mB 134) 53 = .ok (.iconst 5, 1) := by decide +kernel
theorem f_134_54 : decode (mB 134) 54 = .ok (.iadd, 1) := by decide +kernel
theorem f_134_55 : decode (mB 134) 55 = .ok (.invokestatic 108, 3) := by decide +kernel
theorem f_134_58 : decode (mB 134) 58 = .ok (.istore 4, 2) := by decide +kernel
theorem f_134_60 : decode (mB 134) 60 = .ok (.aload_n 0, 1) := by decide +kernel
theorem f_134_61 : decode (mB 134) 61 = .ok (.getfield 9, 3) := by decide +kernel
theorem f_134_64 : decode (mB 134) 64 = .ok (.invokevirtual 111, 3) := by decide +kernel
theorem f_134_67 : decode (mB 134) 67 = .ok (.astore 5, 2) := by decide +kernel
theorem f_134_69 : decode (mB 134) 69 = .ok (.aload 5, 2) := by decide +kernel
theorem f_134_71 : decode (mB 134) 71 = .ok (.iconst 1, 1) := by decide +kernel
theorem f_134_72 : decode (mB 134) 72 = .ok (.iload_n 1, 1) := by decide +kernel
theorem f_134_73 : decode (mB 134) 73 = .ok (.iload_n 3, 1) := by decide +kernel
theorem f_134_74 : decode (mB 134) 74 = .ok (.iload_n 2, 1) := by decide +kernel
theorem f_134_75 : decode (mB 134) 75 = .ok (.aload_n 0, 1) := by decide +kernel
theorem f_134_76 : decode (mB 134) 76 = .ok (.getfield 9, 3) := by decide +kernel
theorem f_134_79 : decode (mB 134) 79 = .ok (.getfield 73, 3) := by decide +kernel
theorem f_134_82 : decode (mB 134) 82 = .ok (.iload 4, 2) := by decide +kernel
theorem f_134_84 : decode (mB 134) 84 = .ok (.invokevirtual 115, 3) := by decide +kernel
theorem f_134_87 : decode (mB 134) 87 = .ok (.aload 5, 2) := by decide +kernel
theorem f_134_89 : decode (mB 134) 89 = .ok (.iconst 0, 1) := by decide +kernel
theorem f_134_90 : decode (mB 134) 90 = .ok (.putfield 119, 3) := by decide +kernel
theorem f_134_93 : decode (mB 134) 93 = .ok (.aload_n 0, 1) := by decide +kernel
theorem f_134_94 : decode (mB 134) 94 = .ok (.getfield 9, 3) := by decide +kernel
theorem f_134_97 : decode (mB 134) 97 = .ok (.iconst (-1), 1) := by decide +kernel
theorem f_134_98 : decode (mB 134) 98 = .ok (.invokevirtual 122, 3) := by decide +kernel
theorem f_134_101 : decode (mB 134) 101 = .ok (.pop, 1) := by decide +kernel
theorem f_134_102 : decode (mB 134) 102 = .ok (.iconst 1, 1) := by decide +kernel
theorem f_134_103 : decode (mB 134) 103 = .ok (.ireturn, 1) := by decide +kernel
theorem f_135_0 : decode (mB 135) 0 = .ok (.aload_n 0, 1) := by decide +kernel
theorem f_135_1 : decode (mB 135) 1 = .ok (.getfield 9, 3) := by decide +kernel
theorem f_135_4 : decode (mB 135) 4 = .ok (.iconst 1, 1) := by decide +kernel
theorem f_135_5 : decode (mB 135) 5 = .ok (.aload_n 0, 1) := by decide +kernel
theorem f_135_6 : decode (mB 135) 6 = .ok (.getfield 9, 3) := by decide +kernel
theorem f_135_9 : decode (mB 135) 9 = .ok (.getfield 73, 3) := by decide +kernel
theorem f_135_12 : decode (mB 135) 12 = .ok (.invokevirtual 125, 3) := by decide +kernel
theorem f_135_15 : decode (mB 135) 15 = .ok (.istore_n 3, 1) := by decide +kernel
theorem f_135_16 : decode (mB 135) 16 = .ok (.iconst 0, 1) := by decide +kernel
theorem f_135_17 : decode (mB 135) 17 = .ok (.istore 4, 2) := by decide +kernel
theorem f_135_19 : decode (mB 135) 19 = .ok (.iload 4, 2) := by decide +kernel
theorem f_135_21 : decode (mB 135) 21 = .ok (.aload_n 0, 1) := by decide +kernel
theorem f_135_22 : decode (mB 135) 22 = .ok (.getfield 9, 3) := by decide +kernel
theorem f_135_25 : decode (mB 135) 25 = .ok (.getfield 41, 3) := by decide +kernel
theorem f_135_28 : decode (mB 135) 28 = .ok (.if_icmp .ge 74, 3) := by decide +kernel
theorem f_135_31 : decode (mB 135) 31 = .ok (.aload_n 0, 1) := by decide +kernel
theorem f_135_32 : decode (mB 135) 32 = .ok (.getfield 9, 3) := by decide +kernel
theorem f_135_35 : decode (mB 135) 35 = .ok (.getfield 44, 3) := by decide +kernel
theorem f_135_38 : decode (mB 135) 38 = .ok (.iload 4, 2) := by decide +kernel
theorem f_135_40 : decode (mB 135) 40 = .ok (.aaload, 1) := by decide +kernel
theorem f_135_41 : decode (mB 135) 41 = .ok (.astore 5, 2) := by decide +kernel
theorem f_135_43 : decode (mB 135) 43 = .ok (.iload 4, 2) := by decide +kernel
theorem f_135_45 : decode (mB 135) 45 = .ok (.iload_n 1, 1) := by decide +kernel
theorem f_135_46 : decode (mB 135) 46 = .ok (.if_icmp .eq 50, 3) := by decide +kernel
theorem f_135_49 : decode (mB 135) 49 = .ok (.aload 5, 2) := by decide +kernel
theorem f_135_51 : decode (mB 135) 51 = .ok (.invokevirtual 48, 3) := by decide +kernel
theorem f_135_54 : decode (mB 135) 54 = .ok (.ifCond .ne 42, 3) := by decide +kernel
theorem f_135_57 : decode (mB 135) 57 = .ok (.aload 5, 2) := by decide +kernel
theorem f_135_59 : decode (mB 135) 59 = .ok (.getfield 87, 3) := by decide +kernel
theorem f_135_62 : decode (mB 135) 62 = .ok (.iload_n 2, 1) := by decide +kernel
theorem f_135_63 : decode (mB 135) 63 = .ok (.isub, 1) := by decide +kernel
theorem f_135_64 : decode (mB 135) 64 = .ok (.bipush 20, 2) := by decide +kernel
theorem f_135_66 : decode (mB 135) 66 = .ok (.if_icmp .lt 30, 3) := by decide +kernel
theorem f_135_69 : decode (mB 135) 69 = .ok (.aload_n 0, 1) := by decide +kernel
theorem f_135_70 : decode (mB 135) 70 = .ok (.getfield 9, 3) := by decide +kernel
theorem f_135_73 : decode (mB 135) 73 = .ok (.getfield 44, 3) := by decide +kernel
theorem f_135_76 : decode (mB 135) 76 = .ok (.iload_n 1, 1) := by decide +kernel
theorem f_135_77 : decode (mB 135) 77 = .ok (.aaload, 1) := by decide +kernel
theorem f_135_78 : decode (mB 135) 78 = .ok (.getfield 128, 3) := by decide +kernel
theorem f_135_81 : decode (mB 135) 81 = .ok (.ifCond .ne 12, 3) := by decide +kernel
theorem f_135_84 : decode (mB 135) 84 = .ok (.iload_n 3, 1) := by decide +kernel
theorem f_135_85 : decode (mB 135) 85 = .ok (.aload 5, 2) := by decide +kernel
theorem f_135_87 : decode (mB 135) 87 = .ok (.getfield 132, 3) := by decide +kernel
theorem f_135_90 : decode (mB 135) 90 = .ok (.if_icmp .le 6, 3) := by decide +kernel
theorem f_135_93 : decode (mB 135) 93 = .ok (.iload 4, 2) := by decide +kernel
theorem f_135_95 : decode (mB 135) 95 = .ok (.ireturn, 1) := by decide +kernel
theorem f_135_96 : decode (mB 135) 96 = .ok (.iinc 4 1, 3) := by decide +kernel
theorem f_135_99 : decode (mB 135) 99 = .ok (.goto (-80), 3) := by decide +kernel
theorem f_135_102 : decode (mB 135) 102 = .ok (.iconst (-1), 1) := by decide +kernel
theorem f_135_103 : decode (mB 135) 103 = .ok (.ireturn, 1) := by decide +kernel
theorem f_136_0 : decode (mB 136) 0 = .ok (.aload_n 0, 1) := by decide +kernel
theorem f_136_1 : decode (mB 136) 1 = .ok (.getfield 9, 3) := by decide +kernel
theorem f_136_4 : decode (mB 136) 4 = .ok (.getfield 44, 3) := by decide +kernel
theorem f_136_7 : decode (mB 136) 7 = .ok (.aload_n 1, 1) := by decide +kernel
theorem f_136_8 : decode (mB 136) 8 = .ok (.getfield 135, 3) := by decide +kernel
theorem f_136_11 : decode (mB 136) 11 = .ok (.aaload, 1) := by decide +kernel
theorem f_136_12 : decode (mB 136) 12 = .ok (.astore_n 2, 1) := by decide +kernel
theorem f_136_13 : decode (mB 136) 13 = .ok (.aload_n 2, 1) := by decide +kernel
theorem f_136_14 : decode (mB 136) 14 = .ok (.invokevirtual 48, 3) := by decide +kernel
theorem f_136_17 : decode (mB 136) 17 = .ok (.ifCond .ne 22, 3) := by decide +kernel
theorem f_136_20 : decode (mB 136) 20 = .ok (.aload_n 0, 1) := by decide +kernel
theorem f_136_21 : decode (mB 136) 21 = .ok (.getfield 9, 3) := by decide +kernel
theorem f_136_24 : decode (mB 136) 24 = .ok (.aload_n 1, 1) := by decide +kernel
theorem f_136_25 : decode (mB 136) 25 = .ok (.aload_n 2, 1) := by decide +kernel
theorem f_136_26 : decode (mB 136) 26 = .ok (.getfield 87, 3) := by decide +kernel
theorem f_136_29 : decode (mB 136) 29 = .ok (.aload_n 1, 1) := by decide +kernel
theorem f_136_30 : decode (mB 136) 30 = .ok (.invokevirtual 138, 3) := by decide +kernel
theorem f_136_33 : decode (mB 136) 33 = .ok (.invokestatic 108, 3) := by decide +kernel
theorem f_136_36 : decode (mB 136) 36 = .ok (.invokevirtual 142, 3) := by decide +kernel
theorem f_136_39 : decode (mB 136) 39 = .ok (.aload_n 1, 1) := by decide +kernel
theorem f_136_40 : decode (mB 136) 40 = .ok (.getfield 65, 3) := by decide +kernel
theorem f_136_43 : decode (mB 136) 43 = .ok (.ifCond .ne 75, 3) := by decide +kernel
theorem f_136_46 : decode (mB 136) 46 = .ok (.aload_n 1, 1) := by decide +kernel
theorem f_136_47 : decode (mB 136) 47 = .ok (.getfield 146, 3) := by decide +kernel
theorem f_136_50 : decode (mB 136) 50 = .ok (.iconst 2, 1) := by decide +kernel
theorem f_136_51 : decode (mB 136) 51 = .ok (.if_icmp .ne 67, 3) := by decide +kernel
theorem f_136_54 : decode (mB 136) 54 = .ok (.aload_n 0, 1) := by decide +kernel
theorem f_136_55 : decode (mB 136) 55 = .ok (.getfield 9, 3) := by decide +kernel
theorem f_136_58 : decode (mB 136) 58 = .ok (.aload_n 1, 1) := by decide +kernel
theorem f_136_59 : decode (mB 136) 59 = .ok (.getfield 149, 3) := by decide +kernel
theorem f_136_62 : decode (mB 136) 62 = .ok (.invokevirtual 152, 3) := by decide +kernel
theorem f_136_65 : decode (mB 136) 65 = .ok (.ifCond .eq 53, 3) := by decide +kernel
theorem f_136_68 : decode (mB 136) 68 = .ok (.aload_n 0, 1) := by decide +kernel
theorem f_136_69 : decode (mB 136) 69 = .ok (.getfield 9, 3) := by decide +kernel
theorem f_136_72 : decode (mB 136) 72 = .ok (.getfield 25, 3) := by decide +kernel
theorem f_136_75 : decode (mB 136) 75 = .ok (.aload_n 1, 1) := by decide +kernel
theorem f_136_76 : decode (mB 136) 76 = .ok (.getfield 149, 3) := by decide +kernel
theorem f_136_79 : decode (mB 136) 79 = .ok (.aaload, 1) := by decide +kernel
theorem f_136_80 : decode (mB 136) 80 = .ok (.getfield 29, 3) := by decide +kernel
theorem f_136_83 : decode (mB 136) 83 = .ok (.aload_n 1, 1) := by decide +kernel
theorem f_136_84 : decode (mB 136) 84 = .ok (.getfield 135, 3) := by decide +kernel
theorem f_136_87 : decode (mB 136) 87 = .ok (.if_icmp .ne 31, 3) := by decide +kernel
theorem f_136_90 : decode (mB 136) 90 = .ok (.aload_n 0, 1) := by decide +kernel
theorem f_136_91 : decode (mB 136) 91 = .ok (.getfield 9, 3) := by decide +kernel
theorem f_136_94 : decode (mB 136) 94 = .ok (.getfield 25, 3) := by decide +kernel
theorem f_136_97 : decode (mB 136) 97 = .ok (.aload_n 1, 1) := by decide +kernel
theorem f_136_98 : decode (mB 136) 98 = .ok (.getfield 149, 3) := by decide +kernel
theorem f_136_101 : decode (mB 136) 101 = .ok (.aaload, 1) := by decide +kernel
theorem f_136_102 : decode (mB 136) 102 = .ok (.aload_n 1, 1) := by decide +kernel
theorem f_136_103 : decode (mB 136) 103 = .ok (.getfield 156, 3) := by decide +kernel
theorem f_136_106 : decode (mB 136) 106 = .ok (.putfield 29, 3) := by decide +kernel
theorem f_136_109 : decode (mB 136) 109 = .ok (.aload_n 0, 1) := by decide +kernel
theorem f_136_110 : decode (mB 136) 110 = .ok (.getfield 9, 3) := by decide +kernel
theorem f_136_113 : decode (mB 136) 113 = .ok (.aload_n 1, 1) := by decide +kernel
theorem f_136_114 : decode (mB 136) 114 = .ok (.iconst 1, 1) := by decide +kernel
theorem f_136_115 : decode (mB 136) 115 = .ok (.invokevirtual 159, 3) := by decide +kernel
theorem f_136_118 : decode (mB 136) 118 = .ok (.return_, 1) := by decide +kernel
theorem f_137_0 : decode (mB 137) 0 = .ok (.iconst 0, 1) := by decide +kernel
theorem f_137_1 : decode (mB 137) 1 = .ok (.istore_n 1, 1) := by decide +kernel
theorem f_137_2 : decode (mB 137) 2 = .ok (.iload_n 1, 1) := by decide +kernel
theorem f_137_3 : decode (mB 137) 3 = .ok (.aload_n 0, 1) := by decide +kernel
theorem f_137_4 : decode (mB 137) 4 = .ok (.getfield 9, 3) := by decide +kernel
theorem f_137_7 : decode (mB 137) 7 = .ok (.getfield 58, 3) := by decide +kernel
theorem f_137_10 : decode (mB 137) 10 = .ok (.if_icmp .ge 56, 3) := by decide +kernel
theorem f_137_13 : decode (mB 137) 13 = .ok (.aload_n 0, 1) := by decide +kernel
theorem f_137_14 : decode (mB 137) 14 = .ok (.getfield 9, 3) := by decide +kernel
theorem f_137_17 : decode (mB 137) 17 = .ok (.getfield 61, 3) := by decide +kernel
theorem f_137_20 : decode (mB 137) 20 = .ok (.iload_n 1, 1) := by decide +kernel
theorem f_137_21 : decode (mB 137) 21 = .ok (.aaload, 1) := by decide +kernel
theorem f_137_22 : decode (mB 137) 22 = .ok (.astore_n 2, 1) := by decide +kernel
theorem f_137_23 : decode (mB 137) 23 = .ok (.aload_n 2, 1) := by decide +kernel
theorem f_137_24 : decode (mB 137) 24 = .ok (.getfield 65, 3) := by decide +kernel
theorem f_137_27 : decode (mB 137) 27 = .ok (.ifCond .ne 33, 3) := by decide +kernel
theorem f_137_30 : decode (mB 137) 30 = .ok (.aload_n 0, 1) := by decide +kernel
theorem f_137_31 : decode (mB 137) 31 = .ok (.getfield 15, 3) := by decide +kernel
theorem f_137_34 : decode (mB 137) 34 = .ok (.aload_n 2, 1) := by decide +kernel
theorem f_137_35 : decode (mB 137) 35 = .ok (.iconst 0, 1) := by decide +kernel
theorem f_137_36 : decode (mB 137) 36 = .ok (.iconst 0, 1) := by decide +kernel
theorem f_137_37 : decode (mB 137) 37 = .ok (.aload_n 0, 1) := by decide +kernel
theorem f_137_38 : decode (mB 137) 38 = .ok (.getfield 9, 3) := by decide +kernel
theorem f_137_41 : decode (mB 137) 41 = .ok (.getfield 73, 3) := by decide +kernel
theorem f_137_44 : decode (mB 137) 44 = .ok (.invokevirtual 162, 3) := by decide +kernel
theorem f_137_47 : decode (mB 137) 47 = .ok (.iconst 2, 1) := by decide +kernel
theorem f_137_48 : decode (mB 137) 48 = .ok (.if_icmp .ne 12, 3) := by decide +kernel
theorem f_137_51 : decode (mB 137) 51 = .ok (.aload_n 0, 1) := by decide +kernel
theorem f_137_52 : decode (mB 137) 52 = .ok (.getfield 9, 3) := by decide +kernel
theorem f_137_55 : decode (mB 137) 55 = .ok (.aload_n 2, 1) := by decide +kernel
theorem f_137_56 : decode (mB 137) 56 = .ok (.iconst 2, 1) := by decide +kernel
theorem f_137_57 : decode (mB 137) 57 = .ok (.invokevirtual 159, 3) := by decide +kernel
theorem f_137_60 : decode (mB 137) 60 = .ok (.iinc 1 1, 3) := by decide +kernel
theorem f_137_63 : decode (mB 137) 63 = .ok (.goto (-61), 3) := by decide +kernel
theorem f_137_66 : decode (mB 137) 66 = .ok (.iconst 0, 1) := by decide +kernel
theorem f_137_67 : decode (mB 137) 67 = .ok (.istore_n 1, 1) := by decide +kernel
theorem f_137_68 : decode (mB 137) 68 = .ok (.iload_n 1, 1) := by decide +kernel
theorem f_137_69 : decode (mB 137) 69 = .ok (.aload_n 0, 1) := by decide +kernel
theorem f_137_70 : decode (mB 137) 70 = .ok (.getfield 9, 3) := by decide +kernel
theorem f_137_73 : decode (mB 137) 73 = .ok (.getfield 19, 3) := by decide +kernel
theorem f_137_76 : decode (mB 137) 76 = .ok (.if_icmp .ge 62, 3) := by decide +kernel
theorem f_137_79 : decode (mB 137) 79 = .ok (.aload_n 0, 1) := by decide +kernel
theorem f_137_80 : decode (mB 137) 80 = .ok (.getfield 9, 3) := by decide +kernel
theorem f_137_83 : decode (mB 137) 83 = .ok (.getfield 25, 3) := by decide +kernel
theorem f_137_86 : decode (mB 137) 86 = .ok (.iload_n 1, 1) := by decide +kernel
theorem f_137_87 : decode (mB 137) 87 = .ok (.aaload, 1) := by decide +kernel
theorem f_137_88 : decode (mB 137) 88 = .ok (.astore_n 2, 1) := by decide +kernel
theorem f_137_89 : decode (mB 137) 89 = .ok (.aload_n 0, 1) := by decide +kernel
theorem f_137_90 : decode (mB 137) 90 = .ok (.getfield 9, 3) := by decide +kernel
theorem f_137_93 : decode (mB 137) 93 = .ok (.aload_n 2, 1) := by decide +kernel
theorem f_137_94 : decode (mB 137) 94 = .ok (.getfield 168, 3) := by decide +kernel
theorem f_137_97 : decode (mB 137) 97 = .ok (.invokevirtual 171, 3) := by decide +kernel
theorem f_137_100 : decode (mB 137) 100 = .ok (.istore_n 3, 1) := by decide +kernel
theorem f_137_101 : decode (mB 137) 101 = .ok (.iload_n 3, 1) := by decide +kernel
theorem f_137_102 : decode (mB 137) 102 = .ok (.ifCond .eq 30, 3) := by decide +kernel
theorem f_137_105 : decode (mB 137) 105 = .ok (.aload_n 0, 1) := by decide +kernel
theorem f_137_106 : decode (mB 137) 106 = .ok (.getfield 15, 3) := by decide +kernel
theorem f_137_109 : decode (mB 137) 109 = .ok (.aload_n 2, 1) := by decide +kernel
theorem f_137_110 : decode (mB 137) 110 = .ok (.iconst 0, 1) := by decide +kernel
theorem f_137_111 : decode (mB 137) 111 = .ok (.aload_n 0, 1) := by decide +kernel
theorem f_137_112 : decode (mB 137) 112 = .ok (.getfield 9, 3) := by decide +kernel
theorem f_137_115 : decode (mB 137) 115 = .ok (.getfield 73, 3) := by decide +kernel
theorem f_137_118 : decode (mB 137) 118 = .ok (.invokevirtual 174, 3) := by decide +kernel
theorem f_137_121 : decode (mB 137) 121 = .ok (.ifCond .eq 11, 3) := by decide +kernel
theorem f_137_124 : decode (mB 137) 124 = .ok (.aload_n 2, 1) := by decide +kernel
theorem f_137_125 : decode (mB 137) 125 = .ok (.iload_n 3, 1) := by decide +kernel
theorem f_137_126 : decode (mB 137) 126 = .ok (.invokestatic 178, 3) := by decide +kernel
theorem f_137_129 : decode (mB 137) 129 = .ok (.putfield 29, 3) := by decide +kernel
theorem f_137_132 : decode (mB 137) 132 = .ok (.iinc 1 1, 3) := by decide +kernel
theorem f_137_135 : decode (mB 137) 135 = .ok (.goto (-67), 3) := by decide +kernel
theorem f_137_138 : decode (mB 137) 138 = .ok (.return_, 1) := by decide +kernel
theorem f_138_0 : decode (mB 138) 0 = .ok (.iconst 0, 1) := by decide +kernel
theorem f_138_1 : decode (mB 138) 1 = .ok (.istore_n 1, 1) := by decide +kernel
theorem f_138_2 : decode (mB 138) 2 = .ok (.iload_n 1, 1) := by decide +kernel
theorem f_138_3 : decode (mB 138) 3 = .ok (.bipush 13, 2) := by decide +kernel
theorem f_138_5 : decode (mB 138) 5 = .ok (.if_icmp .ge 17, 3) := by decide +kernel
theorem f_138_8 : decode (mB 138) 8 = .ok (.iload_n 0, 1) := by decide +kernel
theorem f_138_9 : decode (mB 138) 9 = .ok (.iload_n 1, 1) := by decide +kernel
theorem f_138_10 : decode (mB 138) 10 = .ok (.ishr, 1) := by decide +kernel
theorem f_138_11 : decode (mB 138) 11 = .ok (.iconst 1, 1) := by decide +kernel
theorem f_138_12 : decode (mB 138) 12 = .ok (.iand, 1) := by decide +kernel
theorem f_138_13 : decode (mB 138) 13 = .ok (.ifCond .ne 9, 3) := by decide +kernel
theorem f_138_16 : decode (mB 138) 16 = .ok (.iinc 1 1, 3) := by decide +kernel
theorem f_138_19 : decode (mB 138) 19 = .ok (.goto (-17), 3) := by decide +kernel
theorem f_138_22 : decode (mB 138) 22 = .ok (.iload_n 1, 1) := by decide +kernel
theorem f_138_23 : decode (mB 138) 23 = .ok (.ireturn, 1) := by decide +kernel
theorem f_139_0 : decode (mB 139) 0 = .ok (.iload_n 1, 1) := by decide +kernel
theorem f_139_1 : decode (mB 139) 1 = .ok (.invokestatic 322, 3) := by decide +kernel
theorem f_139_4 : decode (mB 139) 4 = .ok (.ifCond .ne 10, 3) := by decide +kernel
theorem f_139_7 : decode (mB 139) 7 = .ok (.aload_n 0, 1) := by decide +kernel
theorem f_139_8 : decode (mB 139) 8 = .ok (.ldc 83, 2) := by decide +kernel
theorem f_139_10 : decode (mB 139) 10 = .ok (.invokevirtual 84, 3) := by decide +kernel
theorem f_139_13 : decode (mB 139) 13 = .ok (.ireturn, 1) := by decide +kernel
theorem f_139_14 : decode (mB 139) 14 = .ok (.aload_n 0, 1) := by decide +kernel
theorem f_139_15 : decode (mB 139) 15 = .ok (.getfield 53, 3) := by decide +kernel
theorem f_139_18 : decode (mB 139) 18 = .ok (.iload_n 1, 1) := by decide +kernel
theorem f_139_19 : decode (mB 139) 19 = .ok (.aaload, 1) := by decide +kernel
theorem f_139_20 : decode (mB 139) 20 = .ok (.invokevirtual 325, 3) := by decide +kernel
theorem f_139_23 : decode (mB 139) 23 = .ok (.ifCond .eq 10, 3) := by decide +kernel
theorem f_139_26 : decode (mB 139) 26 = .ok (.aload_n 0, 1) := by decide +kernel
theorem f_139_27 : decode (mB 139) 27 = .ok (.ldc 184, 2) := by decide +kernel
theorem f_139_29 : decode (mB 139) 29 = .ok (.invokevirtual 84, 3) := by decide +kernel
theorem f_139_32 : decode (mB 139) 32 = .ok (.ireturn, 1) := by decide +kernel
theorem f_139_33 : decode (mB 139) 33 = .ok (.bipush 10, 2) := by decide +kernel
theorem f_139_35 : decode (mB 139) 35 = .ok (.istore_n 2, 1) := by decide +kernel
theorem f_139_36 : decode (mB 139) 36 = .ok (.iconst 0, 1) := by decide +kernel
theorem f_139_37 : decode (mB 139) 37 = .ok (.istore_n 3, 1) := by decide +kernel
theorem f_139_38 : decode (mB 139) 38 = .ok (.iload_n 3, 1) := by decide +kernel
theorem f_139_39 : decode (mB 139) 39 = .ok (.aload_n 0, 1) := by decide +kernel
theorem f_139_40 : decode (mB 139) 40 = .ok (.getfield 53, 3) := by decide +kernel
theorem f_139_43 : decode (mB 139) 43 = .ok (.iload_n 1, 1) := by decide +kernel
theorem f_139_44 : decode (mB 139) 44 = .ok (.aaload, 1) := by decide +kernel
theorem f_139_45 : decode (mB 139) 45 = .ok (.getfield 328, 3) := by decide +kernel
theorem f_139_48 : decode (mB 139) 48 = .ok (.if_icmp .ge 55, 3) := by decide +kernel
theorem f_139_51 : decode (mB 139) 51 = .ok (.aload_n 0, 1) := by decide +kernel
theorem f_139_52 : decode (mB 139) 52 = .ok (.getfield 10, 3) := by decide +kernel
theorem f_139_55 : decode (mB 139) 55 = .ok (.getfield 66, 3) := by decide +kernel
theorem f_139_58 : decode (mB 139) 58 = .ok (.sipush 400, 3) := by decide +kernel
theorem f_139_61 : decode (mB 139) 61 = .ok (.if_icmp .ge 42, 3) := by decide +kernel
theorem f_139_64 : decode (mB 139) 64 = .ok (.aload_n 0, 1) := by decide +kernel
theorem f_139_65 : decode (mB 139) 65 = .ok (.getfield 53, 3) := by decide +kernel
theorem f_139_68 : decode (mB 139) 68 = .ok (.iload_n 1, 1) := by decide +kernel
theorem f_139_69 : decode (mB 139) 69 = .ok (.aaload, 1) := by decide +kernel
theorem f_139_70 : decode (mB 139) 70 = .ok (.getfield 329, 3) := by decide +kernel
theorem f_139_73 : decode (mB 139) 73 = .ok (.iload_n 3, 1) := by decide +kernel
theorem f_139_74 : decode (mB 139) 74 = .ok (.iaload, 1) := by decide +kernel
theorem f_139_75 : decode (mB 139) 75 = .ok (.istore 4, 2) := by decide +kernel
theorem f_139_77 : decode (mB 139) 77 = .ok (.iload 4, 2) := by decide +kernel
theorem f_139_79 : decode (mB 139) 79 = .ok (.invokestatic 316, 3) := by decide +kernel
theorem f_139_82 : decode (mB 139) 82 = .ok (.ifCond .eq 6, 3) := by decide +kernel
theorem f_139_85 : decode (mB 139) 85 = .ok (.iload 4, 2) := by decide +kernel
theorem f_139_87 : decode (mB 139) 87 = .ok (.istore_n 2, 1) := by decide +kernel
theorem f_139_88 : decode (mB 139) 88 = .ok (.aload_n 0, 1) := by decide +kernel
theorem f_139_89 : decode (mB 139) 89 = .ok (.getfield 33, 3) := by decide +kernel
theorem f_139_92 : decode (mB 139) 92 = .ok (.iload_n 2, 1) := by decide +kernel
theorem f_139_93 : decode (mB 139) 93 = .ok (.invokevirtual 319, 3) := by decide +kernel
theorem f_139_96 : decode (mB 139) 96 = .ok (.pop, 1) := by decide +kernel
theorem f_139_97 : decode (mB 139) 97 = .ok (.iinc 3 1, 3) := by decide +kernel
theorem f_139_100 : decode (mB 139) 100 = .ok (.goto (-62), 3) := by decide +kernel
theorem f_139_103 : decode (mB 139) 103 = .ok (.iload_n 3, 1) := by decide +kernel
theorem f_139_104 : decode (mB 139) 104 = .ok (.ireturn, 1) := by decide +kernel
theorem f_140_0 : decode (mB 140) 0 = .ok (.iload_n 0, 1) := by decide +kernel
theorem f_140_1 : decode (mB 140) 1 = .ok (.iconst 0, 1) := by decide +kernel
theorem f_140_2 : decode (mB 140) 2 = .ok (.iconst 3, 1) := by decide +kernel
theorem f_140_3 : decode (mB 140) 3 = .ok (.invokestatic 75, 3) := by decide +kernel
theorem f_140_6 : decode (mB 140) 6 = .ok (.ireturn, 1) := by decide +kernel
theorem f_141_0 : decode (mB 141) 0 = .ok (.aload_n 0, 1) := by decide +kernel
theorem f_141_1 : decode (mB 141) 1 = .ok (.getfield 13, 3) := by decide +kernel
theorem f_141_4 : decode (mB 141) 4 = .ok (.ifCond .ne 7, 3) := by decide +kernel
theorem f_141_7 : decode (mB 141) 7 = .ok (.iconst 1, 1) := by decide +kernel
theorem f_141_8 : decode (mB 141) 8 = .ok (.goto 4, 3) := by decide +kernel
theorem f_141_11 : decode (mB 141) 11 = .ok (.iconst 0, 1) := by decide +kernel
theorem f_141_12 : decode (mB 141) 12 = .ok (.ireturn, 1) := by decide +kernel
theorem f_142_0 : decode (mB 142) 0 = .ok (.aload_n 0, 1) := by decide +kernel
theorem f_142_1 : decode (mB 142) 1 = .ok (.getfield 10, 3) := by decide +kernel
theorem f_142_4 : decode (mB 142) 4 = .ok (.iload_n 1, 1) := by decide +kernel
theorem f_142_5 : decode (mB 142) 5 = .ok (.invokevirtual 203, 3) := by decide +kernel
theorem f_142_8 : decode (mB 142) 8 = .ok (.ifCond .eq 14, 3) := by decide +kernel
theorem f_142_11 : decode (mB 142) 11 = .ok (.aload_n 0, 1) := by decide +kernel
theorem f_142_12 : decode (mB 142) 12 = .ok (.getfield 10, 3) := by decide +kernel
theorem f_142_15 : decode (mB 142) 15 = .ok (.iload_n 1, 1) := by decide +kernel
theorem f_142_16 : decode (mB 142) 16 = .ok (.invokevirtual 332, 3) := by decide +kernel
theorem f_142_19 : decode (mB 142) 19 = .ok (.goto 9, 3) := by decide +kernel
theorem f_142_22 : decode (mB 142) 22 = .ok (.aload_n 0, 1) := by decide +kernel
theorem f_142_23 : decode (mB 142) 23 = .ok (.ldc 83, 2) := by decide +kernel
theorem f_142_25 : decode (mB 142) 25 = .ok (.invokevirtual 84, 3) := by decide +kernel
theorem f_142_28 : decode (mB 142) 28 = .ok (.ireturn, 1) := by decide +kernel
theorem f_143_0 : decode (mB 143) 0 = .ok (.iconst 0, 1) := by decide +kernel
theorem f_143_1 : decode (mB 143) 1 = .ok (.istore_n 2, 1) := by decide +kernel
theorem f_143_2 : decode (mB 143) 2 = .ok (.iconst 0, 1) := by decide +kernel
theorem f_143_3 : decode (mB 143) 3 = .ok (.istore_n 3, 1) := by decide +kernel
theorem f_143_4 : decode (mB 143) 4 = .ok (.iload_n 3, 1) := by decide +kernel
theorem f_143_5 : decode (mB 143) 5 = .ok (.bipush 14, 2) := by decide +kernel
theorem f_143_7 : decode (mB 143) 7 = .ok (.if_icmp .gt 29, 3) := by decide +kernel
theorem f_143_10 : decode (mB 143) 10 = .ok (.aload_n 0, 1) := by decide +kernel
theorem f_143_11 : decode (mB 143) 11 = .ok (.iload_n 2, 1) := by decide +kernel
theorem f_143_12 : decode (mB 143) 12 = .ok (.iload_n 1, 1) := by decide +kernel
theorem f_143_13 : decode (mB 143) 13 = .ok (.invokevirtual 191, 3) := by decide +kernel
theorem f_143_16 : decode (mB 143) 16 = .ok (.istore 4, 2) := by decide +kernel
theorem f_143_18 : decode (mB 143) 18 = .ok (.iload 4, 2) := by decide +kernel
theorem f_143_20 : decode (mB 143) 20 = .ok (.iload_n 2, 1) := by decide +kernel
theorem f_143_21 : decode (mB 143) 21 = .ok (.if_icmp .ne 6, 3) := by decide +kernel
theorem f_143_24 : decode (mB 143) 24 = .ok (.goto 12, 3) := by decide +kernel
theorem f_143_27 : decode (mB 143) 27 = .ok (.iload 4, 2) := by decide +kernel
theorem f_143_29 : decode (mB 143) 29 = .ok (.istore_n 2, 1) := by decide +kernel
theorem f_143_30 : decode (mB 143) 30 = .ok (.iinc 3 1, 3) := by decide +kernel
theorem f_143_33 : decode (mB 143) 33 = .ok (.goto (-29), 3) := by decide +kernel
theorem f_143_36 : decode (mB 143) 36 = .ok (.iload_n 2, 1) := by decide +kernel
theorem f_143_37 : decode (mB 143) 37 = .ok (.ireturn, 1) := by decide +kernel
theorem f_144_0 : decode (mB 144) 0 = .ok (.iconst 0, 1) := by decide +kernel
theorem f_144_1 : decode (mB 144) 1 = .ok (.istore_n 3, 1) := by decide +kernel
theorem f_144_2 : decode (mB 144) 2 = .ok (.iload_n 3, 1) := by decide +kernel
theorem f_144_3 : decode (mB 144) 3 = .ok (.aload_n 0, 1) := by decide +kernel
theorem f_144_4 : decode (mB 144) 4 = .ok (.getfield 48, 3) := by decide +kernel
theorem f_144_7 : decode (mB 144) 7 = .ok (.if_icmp .ge 24, 3) := by decide +kernel
theorem f_144_10 : decode (mB 144) 10 = .ok (.aload_n 0, 1) := by decide +kernel
theorem f_144_11 : decode (mB 144) 11 = .ok (.getfield 45, 3) := by decide +kernel
theorem f_144_14 : decode (mB 144) 14 = .ok (.iload_n 3, 1) := by decide +kernel
theorem f_144_15 : decode (mB 144) 15 = .ok (.aload_n 0, 1) := by decide +kernel
theorem f_144_16 : decode (mB 144) 16 = .ok (.getfield 11, 3) := by decide +kernel
theorem f_144_19 : decode (mB 144) 19 = .ok (.iload_n 3, 1) := by decide +kernel
theorem f_144_20 : decode (mB 144) 20 = .ok (.aaload, 1) := by decide +kernel
theorem f_144_21 : decode (mB 144) 21 = .ok (.getfield 131, 3) := by decide +kernel
theorem f_144_24 : decode (mB 144) 24 = .ok (.iastore, 1) := by decide +kernel
theorem f_144_25 : decode (mB 144) 25 = .ok (.iinc 3 1, 3) := by decide +kernel
theorem f_144_28 : decode (mB 144) 28 = .ok (.goto (-26), 3) := by decide +kernel
theorem f_144_31 : decode (mB 144) 31 = .ok (.iconst 0, 1) := by decide +kernel
theorem f_144_32 : decode (mB 144) 32 = .ok (.istore_n 3, 1) := by decide +kernel
theorem f_144_33 : decode (mB 144) 33 = .ok (.iload_n 3, 1) := by decide +kernel
theorem f_144_34 : decode (mB 144) 34 = .ok (.aload_n 0, 1) := by decide +kernel
theorem f_144_35 : decode (mB 144) 35 = .ok (.getfield 55, 3) := by decide +kernel
theorem f_144_38 : decode (mB 144) 38 = .ok (.if_icmp .ge 79, 3) := by decide +kernel
theorem f_144_41 : decode (mB 144) 41 = .ok (.aload_n 0, 1) := by decide +kernel
theorem f_144_42 : decode (mB 144) 42 = .ok (.getfield 25, 3) := by decide +kernel
theorem f_144_45 : decode (mB 144) 45 = .ok (.iload_n 3, 1) := by decide +kernel
theorem f_144_46 : decode (mB 144) 46 = .ok (.aaload, 1) := by decide +kernel
theorem f_144_47 : decode (mB 144) 47 = .ok (.astore 4, 2) := by decide +kernel
theorem f_144_49 : decode (mB 144) 49 = .ok (.iload_n 3, 1) := by decide +kernel
theorem f_144_50 : decode (mB 144) 50 = .ok (.iload_n 2, 1) := by decide +kernel
theorem f_144_51 : decode (mB 144) 51 = .ok (.if_icmp .ne 7, 3) := by decide +kernel
theorem f_144_54 : decode (mB 144) 54 = .ok (.iconst 0, 1) := by decide +kernel
theorem f_144_55 : decode (mB 144) 55 = .ok (.goto 8, 3) := by decide +kernel
theorem f_144_58 : decode (mB 144) 58 = .ok (.aload 4, 2) := by decide +kernel
theorem f_144_60 : decode (mB 144) 60 = .ok (.invokevirtual 188, 3) := by decide +kernel
theorem f_144_63 : decode (mB 144) 63 = .ok (.istore 5, 2) := by decide +kernel
theorem f_144_65 : decode (mB 144) 65 = .ok (.aload_n 0, 1) := by decide +kernel
theorem f_144_66 : decode (mB 144) 66 = .ok (.getfield 45, 3) := by decide +kernel
theorem f_144_69 : decode (mB 144) 69 = .ok (.aload 4, 2) := by decide +kernel
theorem f_144_71 : decode (mB 144) 71 = .ok (.getfield 161, 3) := by decide +kernel
theorem f_144_74 : decode (mB 144) 74 = .ok (.dup2, 1) := by decide +kernel
theorem f_144_75 : decode (mB 144) 75 = .ok (.iaload, 1) := by decide +kernel
theorem f_144_76 : decode (mB 144) 76 = .ok (.iload 5, 2) := by decide +kernel
theorem f_144_78 : decode (mB 144) 78 = .ok (.isub, 1) := by decide +kernel
theorem f_144_79 : decode (mB 144) 79 = .ok (.iastore, 1) := by decide +kernel
theorem f_144_80 : decode (mB 144) 80 = .ok (.aload_n 0, 1) := by decide +kernel
theorem f_144_81 : decode (mB 144) 81 = .ok (.getfield 45, 3) := by decide +kernel
theorem f_144_84 : decode (mB 144) 84 = .ok (.aload 4, 2) := by decide +kernel
theorem f_144_86 : decode (mB 144) 86 = .ok (.getfield 152, 3) := by decide +kernel
theorem f_144_89 : decode (mB 144) 89 = .ok (.dup2, 1) := by decide +kernel
theorem f_144_90 : decode (mB 144) 90 = .ok (.iaload, 1) := by decide +kernel
theorem f_144_91 : decode (mB 144) 91 = .ok (.iload_n 1, 1) := by decide +kernel
theorem f_144_92 : decode (mB 144) 92 = .ok (.aload 4, 2) := by decide +kernel
theorem f_144_94 : decode (mB 144) 94 = .ok (.getfield 161, 3) := by decide +kernel
theorem f_144_97 : decode (mB 144) 97 = .ok (.ishr, 1) := by decide +kernel
theorem f_144_98 : decode (mB 144) 98 = .ok (.iconst 1, 1) := by decide +kernel
theorem f_144_99 : decode (mB 144) 99 = .ok (.iand, 1) := by decide +kernel
theorem f_144_100 : decode (mB 144) 100 = .ok (.ifCond .ne 8, 3) := by decide +kernel
theorem f_144_103 : decode (mB 144) 103 = .ok (.iload 5, 2) := by decide +kernel
theorem f_144_105 : decode (mB 144) 105 = .ok (.goto 4, 3) := by decide +kernel
theorem f_144_108 : decode (mB 144) 108 = .ok (.iconst 0, 1) := by decide +kernel
theorem f_144_109 : decode (mB 144) 109 = .ok (.iadd, 1) := by decide +kernel
theorem f_144_110 : decode (mB 144) 110 = .ok (.iastore, 1) := by decide +kernel
theorem f_144_111 : decode (mB 144) 111 = .ok (.iinc 3 1, 3) := by decide +kernel
theorem f_144_114 : decode (mB 144) 114 = .ok (.goto (-81), 3) := by decide +kernel
theorem f_144_117 : decode (mB 144) 117 = .ok (.iconst 0, 1) := by decide +kernel
theorem f_144_118 : decode (mB 144) 118 = .ok (.istore_n 3, 1) := by decide +kernel
theorem f_144_119 : decode (mB 144) 119 = .ok (.iconst 0, 1) := by decide +kernel
theorem f_144_120 : decode (mB 144) 120 = .ok (.istore 4, 2) := by decide +kernel
theorem f_144_122 : decode (mB 144) 122 = .ok (.iload 4, 2) := by decide +kernel
theorem f_144_124 : decode (mB 144) 124 = .ok (.aload_n 0, 1) := by decide +kernel
theorem f_144_125 : decode (mB 144) 125 = .ok (.getfield 48, 3) := by decide +kernel
theorem f_144_128 : decode (mB 144) 128 = .ok (.if_icmp .ge 33, 3) := by decide +kernel
theorem f_144_131 : decode (mB 144) 131 = .ok (.iload_n 3, 1) := by decide +kernel
theorem f_144_132 : decode (mB 144) 132 = .ok (.aload_n 0, 1) := by decide +kernel
theorem f_144_133 : decode (mB 144) 133 = .ok (.getfield 45, 3) := by decide +kernel
theorem f_144_136 : decode (mB 144) 136 = .ok (.iload 4, 2) := by decide +kernel
theorem f_144_138 : decode (mB 144) 138 = .ok (.iaload, 1) := by decide +kernel
theorem f_144_139 : decode (mB 144) 139 = .ok (.ifCond .ge 7, 3) := by decide +kernel
theorem f_144_142 : decode (mB 144) 142 = .ok (.iconst 1, 1) := by decide +kernel
theorem f_144_143 : decode (mB 144) 143 = .ok (.goto 4, 3) := by decide +kernel
theorem f_144_146 : decode (mB 144) 146 = .ok (.iconst 0, 1) := by decide +kernel
theorem f_144_147 : decode (mB 144) 147 = .ok (.invokestatic 127, 3) := by decide +kernel
theorem f_144_150 : decode (mB 144) 150 = .ok (.iload 4, 2) := by decide +kernel
theorem f_144_152 : decode (mB 144) 152 = .ok (.ishl, 1) := by decide +kernel
theorem f_144_153 : decode (mB 144) 153 = .ok (.ior, 1) := by decide +kernel
theorem f_144_154 : decode (mB 144) 154 = .ok (.istore_n 3, 1) := by decide +kernel
theorem f_144_155 : decode (mB 144) 155 = .ok (.iinc 4 1, 3) := by decide +kernel
theorem f_144_158 : decode (mB 144) 158 = .ok (.goto (-36), 3) := by decide +kernel
theorem f_144_161 : decode (mB 144) 161 = .ok (.iload_n 3, 1) := by decide +kernel
theorem f_144_162 : decode (mB 144) 162 = .ok (.ireturn, 1) := by decide +kernel
theorem f_145_0 : decode (mB 145) 0 = .ok (.iload_n 1, 1) := by decide +kernel
theorem f_145_1 : decode (mB 145) 1 = .ok (.iload_n 2, 1) := by decide +kernel
theorem f_145_2 : decode (mB 145) 2 = .ok (.iload_n 3, 1) := by decide +kernel
theorem f_145_3 : decode (mB 145) 3 = .ok (.iload 4, 2) := by decide +kernel
theorem f_145_5 : decode (mB 145) 5 = .ok (.invokestatic 335, 3) := by decide +kernel
theorem f_145_8 : decode (mB 145) 8 = .ok (.ifCond .ne 10, 3) := by decide +kernel
theorem f_145_11 : decode (mB 145) 11 = .ok (.aload_n 0, 1) := by decide +kernel
theorem f_145_12 : decode (mB 145) 12 = .ok (.ldc 83, 2) := by decide +kernel
theorem f_145_14 : decode (mB 145) 14 = .ok (.invokevirtual 84, 3) := by decide +kernel
theorem f_145_17 : decode (mB 145) 17 = .ok (.ireturn, 1) := by decide +kernel
theorem f_145_18 : decode (mB 145) 18 = .ok (.aload_n 0, 1) := by decide +kernel
theorem f_145_19 : decode (mB 145) 19 = .ok (.getfield 47, 3) := by decide +kernel
theorem f_145_22 : decode (mB 145) 22 = .ok (.iload 4, 2) := by decide +kernel
theorem f_145_24 : decode (mB 145) 24 = .ok (.bipush 100, 2) := by decide +kernel
theorem f_145_26 : decode (mB 145) 26 = .ok (.idiv, 1) := by decide +kernel
theorem f_145_27 : decode (mB 145) 27 = .ok (.invokevirtual 339, 3) := by decide +kernel
theorem f_145_30 : decode (mB 145) 30 = .ok (.aload_n 0, 1) := by decide +kernel
theorem f_145_31 : decode (mB 145) 31 = .ok (.getfield 47, 3) := by decide +kernel
theorem f_145_34 : decode (mB 145) 34 = .ok (.iload_n 1, 1) := by decide +kernel
theorem f_145_35 : decode (mB 145) 35 = .ok (.iload_n 2, 1) := by decide +kernel
theorem f_145_36 : decode (mB 145) 36 = .ok (.iload_n 3, 1) := by decide +kernel
theorem f_145_37 : decode (mB 145) 37 = .ok (.invokevirtual 343, 3) := by decide +kernel
theorem f_145_40 : decode (mB 145) 40 = .ok (.ireturn, 1) := by decide +kernel
theorem f_146_0 : decode (mB 146) 0 = .ok (.iload_n 3, 1) := by decide +kernel
theorem f_146_1 : decode (mB 146) 1 = .ok (.bipush 100, 2) := by decide +kernel
theorem f_146_3 : decode (mB 146) 3 = .ok (.idiv, 1) := by decide +kernel
theorem f_146_4 : decode (mB 146) 4 = .ok (.istore 4, 2) := by decide +kernel
theorem f_146_6 : decode (mB 146) 6 = .ok (.iload_n 3, 1) := by decide +kernel
theorem f_146_7 : decode (mB 146) 7 = .ok (.bipush 100, 2) := by decide +kernel
theorem f_146_9 : decode (mB 146) 9 = .ok (.irem, 1) := by decide +kernel
theorem f_146_10 : decode (mB 146) 10 = .ok (.istore 5, 2) := by decide +kernel
theorem f_146_12 : decode (mB 146) 12 = .ok (.iload_n 0, 1) := by decide +kernel
theorem f_146_13 : decode (mB 146) 13 = .ok (.invokestatic 350, 3) := by decide +kernel
theorem f_146_16 : decode (mB 146) 16 = .ok (.ifCond .eq 47, 3) := by decide +kernel
theorem f_146_19 : decode (mB 146) 19 = .ok (.iload_n 1, 1) := by decide +kernel
theorem f_146_20 : decode (mB 146) 20 = .ok (.invokestatic 350, 3) := by decide +kernel
theorem f_146_23 : decode (mB 146) 23 = .ok (.ifCond .eq 40, 3) := by decide +kernel
theorem f_146_26 : decode (mB 146) 26 = .ok (.iload_n 2, 1) := by decide +kernel
theorem f_146_27 : decode (mB 146) 27 = .ok (.iconst 0, 1) := by decide +kernel
theorem f_146_28 : decode (mB 146) 28 = .ok (.bipush 8, 2) := by decide +kernel
theorem f_146_30 : decode (mB 146) 30 = .ok (.invokestatic 75, 3) := by decide +kernel
theorem f_146_33 : decode (mB 146) 33 = .ok (.ifCond .eq 30, 3) := by decide +kernel
theorem f_146_36 : decode (mB 146) 36 = .ok (.iload 4, 2) := by decide +kernel
theorem f_146_38 : decode (mB 146) 38 = .ok (.invokestatic 316, 3) := by decide +kernel
theorem f_146_41 : decode (mB 146) 41 = .ok (.ifCond .eq 22, 3) := by decide +kernel
theorem f_146_44 : decode (mB 146) 44 = .ok (.iload 5, 2) := by decide +kernel
theorem f_146_46 : decode (mB 146) 46 = .ok (.invokestatic 316, 3) := by decide +kernel
theorem f_146_49 : decode (mB 146) 49 = .ok (.ifCond .eq 14, 3) := by decide +kernel
theorem f_146_52 : decode (mB 146) 52 = .ok (.iload 4, 2) := by decide +kernel
theorem f_146_54 : decode (mB 146) 54 = .ok (.iload 5, 2) := by decide +kernel
theorem f_146_56 : decode (mB 146) 56 = .ok (.if_icmp .gt 7, 3) := by decide +kernel
theorem f_146_59 : decode (mB 146) 59 = .ok (.iconst 1, 1) := by decide +kernel
theorem f_146_60 : decode (mB 146) 60 = .ok (.goto 4, 3) := by decide +kernel
theorem f_146_63 : decode (mB 146) 63 = .ok (.iconst 0, 1) := by decide +kernel
theorem f_146_64 : decode (mB 146) 64 = .ok (.ireturn, 1) := by decide +kernel
theorem f_147_0 : decode (mB 147) 0 = .ok (.iload_n 0, 1) := by decide +kernel
theorem f_147_1 : decode (mB 147) 1 = .ok (.iconst 0, 1) := by decide +kernel
theorem f_147_2 : decode (mB 147) 2 = .ok (.bipush 60, 2) := by decide +kernel
theorem f_147_4 : decode (mB 147) 4 = .ok (.invokestatic 75, 3) := by decide +kernel
theorem f_147_7 : decode (mB 147) 7 = .ok (.ireturn, 1) := by decide +kernel
theorem f_148_0 : decode (mB 148) 0 = .ok (.iload_n 1, 1) := by decide +kernel
theorem f_148_1 : decode (mB 148) 1 = .ok (.aload_n 0, 1) := by decide +kernel
theorem f_148_2 : decode (mB 148) 2 = .ok (.getfield 11, 3) := by decide +kernel
theorem f_148_5 : decode (mB 148) 5 = .ok (.if_icmp .eq 16, 3) := by decide +kernel
theorem f_148_8 : decode (mB 148) 8 = .ok (.aload_n 0, 1) := by decide +kernel
theorem f_148_9 : decode (mB 148) 9 = .ok (.iload_n 1, 1) := by decide +kernel
theorem f_148_10 : decode (mB 148) 10 = .ok (.putfield 11, 3) := by decide +kernel
theorem f_148_13 : decode (mB 148) 13 = .ok (.aload_n 0, 1) := by decide +kernel
theorem f_148_14 : decode (mB 148) 14 = .ok (.getfield 15, 3) := by decide +kernel
theorem f_148_17 : decode (mB 148) 17 = .ok (.lconst 0, 1) := by decide +kernel
theorem f_148_18 : decode (mB 148) 18 = .ok (.invokestatic 19, 3) := by decide +kernel
theorem f_148_21 : decode (mB 148) 21 = .ok (.return_, 1) := by decide +kernel
theorem f_149_0 : decode (mB 149) 0 = .ok (.iconst 0, 1) := by decide +kernel
theorem f_149_1 : decode (mB 149) 1 = .ok (.istore_n 3, 1) := by decide +kernel
theorem f_149_2 : decode (mB 149) 2 = .ok (.aload_n 0, 1) := by decide +kernel
theorem f_149_3 : decode (mB 149) 3 = .ok (.arraylength, 1) := by decide +kernel
theorem f_149_4 : decode (mB 149) 4 = .ok (.istore 4, 2) := by decide +kernel
theorem f_149_6 : decode (mB 149) 6 = .ok (.iload_n 3, 1) := by decide +kernel
theorem f_149_7 : decode (mB 149) 7 = .ok (.iload 4, 2) := by decide +kernel
theorem f_149_9 : decode (mB 149) 9 = .ok (.if_icmp .ge 13, 3) := by decide +kernel
theorem f_149_12 : decode (mB 149) 12 = .ok (.aload_n 0, 1) := by decide +kernel
theorem f_149_13 : decode (mB 149) 13 = .ok (.iload_n 3, 1) := by decide +kernel
theorem f_149_14 : decode (mB 149) 14 = .ok (.lload_n 1, 1) := by decide +kernel
theorem f_149_15 : decode (mB 149) 15 = .ok (.lastore, 1) := by decide +kernel
theorem f_149_16 : decode (mB 149) 16 = .ok (.iinc 3 1, 3) := by decide +kernel
theorem f_149_19 : decode (mB 149) 19 = .ok (.goto (-13), 3) := by decide +kernel
theorem f_149_22 : decode (mB 149) 22 = .ok (.return_, 1) := by decide +kernel
theorem f_150_0 : decode (mB 150) 0 = .ok (.iload_n 3, 1) := by decide +kernel
theorem f_150_1 : decode (mB 150) 1 = .ok (.iconst 1, 1) := by decide +kernel
theorem f_150_2 : decode (mB 150) 2 = .ok (.if_icmp .lt 9, 3) := by decide +kernel
theorem f_150_5 : decode (mB 150) 5 = .ok (.iload_n 3, 1) := by decide +kernel
theorem f_150_6 : decode (mB 150) 6 = .ok (.bipush 8, 2) := by decide +kernel
theorem f_150_8 : decode (mB 150) 8 = .ok (.if_icmp .le 7, 3) := by decide +kernel
theorem f_150_11 : decode (mB 150) 11 = .ok (.iconst 2, 1) := by decide +kernel
theorem f_150_12 : decode (mB 150) 12 = .ok (.iload_n 2, 1) := by decide +kernel
theorem f_150_13 : decode (mB 150) 13 = .ok (.imul, 1) := by decide +kernel
theorem f_150_14 : decode (mB 150) 14 = .ok (.ireturn, 1) := by decide +kernel
theorem f_150_15 : decode (mB 150) 15 = .ok (.iload_n 1, 1) := by decide +kernel
theorem f_150_16 : decode (mB 150) 16 = .ok (.bipush 61, 2) := by decide +kernel
theorem f_150_18 : decode (mB 150) 18 = .ok (.imul, 1) := by decide +kernel
theorem f_150_19 : decode (mB 150) 19 = .ok (.iload_n 2, 1) := by decide +kernel
theorem f_150_20 : decode (mB 150) 20 = .ok (.iadd, 1) := by decide +kernel
theorem f_150_21 : decode (mB 150) 21 = .ok (.istore 4, 2) := by decide +kernel
theorem f_150_23 : decode (mB 150) 23 = .ok (.iload 4, 2) := by decide +kernel
theorem f_150_25 : decode (mB 150) 25 = .ok (.iconst 0, 1) := by decide +kernel
theorem f_150_26 : decode (mB 150) 26 = .ok (.aload_n 0, 1) := by decide +kernel
theorem f_150_27 : decode (mB 150) 27 = .ok (.getfield 15, 3) := by decide +kernel
theorem f_150_30 : decode (mB 150) 30 = .ok (.arraylength, 1) := by decide +kernel
theorem f_150_31 : decode (mB 150) 31 = .ok (.iconst 1, 1) := by decide +kernel
theorem f_150_32 : decode (mB 150) 32 = .ok (.isub, 1) := by decide +kernel
theorem f_150_33 : decode (mB 150) 33 = .ok (.invokestatic 25, 3) := by decide +kernel
theorem f_150_36 : decode (mB 150) 36 = .ok (.ifCond .ne 7, 3) := by decide +kernel
theorem f_150_39 : decode (mB 150) 39 = .ok (.iconst 2, 1) := by decide +kernel
theorem f_150_40 : decode (mB 150) 40 = .ok (.iload_n 2, 1) := by decide +kernel
theorem f_150_41 : decode (mB 150) 41 = .ok (.imul, 1) := by decide +kernel
theorem f_150_42 : decode (mB 150) 42 = .ok (.ireturn, 1) := by decide +kernel
theorem f_150_43 : decode (mB 150) 43 = .ok (.bipush 8, 2) := by decide +kernel
theorem f_150_45 : decode (mB 150) 45 = .ok (.iload_n 3, 1) := by decide +kernel
theorem f_150_46 : decode (mB 150) 46 = .ok (.iconst 1, 1) := by decide +kernel
theorem f_150_47 : decode (mB 150) 47 = .ok (.isub, 1) := by decide +kernel
theorem f_150_48 : decode (mB 150) 48 = .ok (.imul, 1) := by decide +kernel
theorem f_150_49 : decode (mB 150) 49 = .ok (.istore 5, 2) := by decide +kernel
theorem f_150_51 : decode (mB 150) 51 = .ok (.aload_n 0, 1) := by decide +kernel
theorem f_150_52 : decode (mB 150) 52 = .ok (.getfield 15, 3) := by decide +kernel
theorem f_150_55 : decode (mB 150) 55 = .ok (.iload 4, 2) := by decide +kernel
theorem f_150_57 : decode (mB 150) 57 = .ok (.laload, 1) := by decide +kernel
theorem f_150_58 : decode (mB 150) 58 = .ok (.iload 5, 2) := by decide +kernel
theorem f_150_60 : decode (mB 150) 60 = .ok (.lushr, 1) := by decide +kernel
theorem f_150_61 : decode (mB 150) 61 = .ok (.l2i, 1) := by decide +kernel
theorem f_150_62 : decode (mB 150) 62 = .ok (.sipush 255, 3) := by decide +kernel
theorem f_150_65 : decode (mB 150) 65 = .ok (.iand, 1) := by decide +kernel
theorem f_150_66 : decode (mB 150) 66 = .ok (.istore 6, 2) := by decide +kernel
theorem f_150_68 : decode (mB 150) 68 = .ok (.iload 6, 2) := by decide +kernel
theorem f_150_70 : decode (mB 150) 70 = .ok (.ifCond .le 8, 3) := by decide +kernel
theorem f_150_73 : decode (mB 150) 73 = .ok (.iload 6, 2) := by decide +kernel
theorem f_150_75 : decode (mB 150) 75 = .ok (.iconst 1, 1) := by decide +kernel
theorem f_150_76 : decode (mB 150) 76 = .ok (.isub, 1) := by decide +kernel
theorem f_150_77 : decode (mB 150) 77 = .ok (.ireturn, 1) := by decide +kernel
theorem f_150_78 : decode (mB 150) 78 = .ok (.aload_n 0, 1) := by decide +kernel
theorem f_150_79 : decode (mB 150) 79 = .ok (.iload_n 1, 1) := by decide +kernel
theorem f_150_80 : decode (mB 150) 80 = .ok (.aload_n 0, 1) := by decide +kernel
theorem f_150_81 : decode (mB 150) 81 = .ok (.getfield 11, 3) := by decide +kernel
theorem f_150_84 : decode (mB 150) 84 = .ok (.iadd, 1) := by decide +kernel
theorem f_150_85 : decode (mB 150) 85 = .ok (.iload_n 2, 1) := by decide +kernel
theorem f_150_86 : decode (mB 150) 86 = .ok (.iload_n 3, 1) := by decide +kernel
theorem f_150_87 : decode (mB 150) 87 = .ok (.invokevirtual 29, 3) := by decide +kernel
theorem f_150_90 : decode (mB 150) 90 = .ok (.istore 7, 2) := by decide +kernel
theorem f_150_92 : decode (mB 150) 92 = .ok (.aload_n 0, 1) := by decide +kernel
theorem f_150_93 : decode (mB 150) 93 = .ok (.getfield 15, 3) := by decide +kernel
theorem f_150_96 : decode (mB 150) 96 = .ok (.iload 4, 2) := by decide +kernel
theorem f_150_98 : decode (mB 150) 98 = .ok (.dup2, 1) := by decide +kernel
theorem f_150_99 : decode (mB 150) 99 = .ok (.laload, 1) := by decide +kernel
theorem f_150_100 : decode (mB 150) 100 = .ok (.iload 7, 2) := by decide +kernel
theorem f_150_102 : decode (mB 150) 102 = .ok (.iconst 1, 1) := by decide +kernel
theorem f_150_103 : decode (mB 150) 103 = .ok (.iadd, 1) := by decide +kernel
theorem f_150_104 : decode (mB 150) 104 = .ok (.i2l, 1) := by decide +kernel
theorem f_150_105 : decode (mB 150) 105 = .ok (.iload 5, 2) := by decide +kernel
theorem f_150_107 : decode (mB 150) 107 = .ok (.lshl, 1) := by decide +kernel
theorem f_150_108 : decode (mB 150) 108 = .ok (.lor, 1) := by decide +kernel
theorem f_150_109 : decode (mB 150) 109 = .ok (.lastore, 1) := by decide +kernel
theorem f_150_110 : decode (mB 150) 110 = .ok (.iload 7, 2) := by decide +kernel
theorem f_150_112 : decode (mB 150) 112 = .ok (.ireturn, 1) := by decide +kernel
theorem f_151_0 : decode (mB 151) 0 = .ok (.iload_n 1, 1) := by decide +kernel
theorem f_151_1 : decode (mB 151) 1 = .ok (.iload_n 2, 1) := by decide +kernel
theorem f_151_2 : decode (mB 151) 2 = .ok (.invokestatic 33, 3) := by decide +kernel
theorem f_151_5 : decode (mB 151) 5 = .ok (.istore 4, 2) := by decide +kernel
theorem f_151_7 : decode (mB 151) 7 = .ok (.aload_n 0, 1) := by decide +kernel
theorem f_151_8 : decode (mB 151) 8 = .ok (.iconst 0, 1) := by decide +kernel
theorem f_151_9 : decode (mB 151) 9 = .ok (.iload_n 1, 1) := by decide +kernel
theorem f_151_10 : decode (mB 151) 10 = .ok (.iload_n 2, 1) := by decide +kernel
theorem f_151_11 : decode (mB 151) 11 = .ok (.iload_n 3, 1) := by decide +kernel
theorem f_151_12 : decode (mB 151) 12 = .ok (.invokevirtual 37, 3) := by decide +kernel
theorem f_151_15 : decode (mB 151) 15 = .ok (.istore 5, 2) := by decide +kernel
theorem f_151_17 : decode (mB 151) 17 = .ok (.iconst 1, 1) := by decide +kernel
theorem f_151_18 : decode (mB 151) 18 = .ok (.istore 6, 2) := by decide +kernel
theorem f_151_20 : decode (mB 151) 20 = .ok (.iload 6, 2) := by decide +kernel
theorem f_151_22 : decode (mB 151) 22 = .ok (.iload 4, 2) := by decide +kernel
theorem f_151_24 : decode (mB 151) 24 = .ok (.if_icmp .gt 25, 3) := by decide +kernel
theorem f_151_27 : decode (mB 151) 27 = .ok (.iload 5, 2) := by decide +kernel
theorem f_151_29 : decode (mB 151) 29 = .ok (.aload_n 0, 1) := by decide +kernel
theorem f_151_30 : decode (mB 151) 30 = .ok (.iload 6, 2) := by decide +kernel
theorem f_151_32 : decode (mB 151) 32 = .ok (.iload_n 1, 1) := by decide +kernel
theorem f_151_33 : decode (mB 151) 33 = .ok (.iload_n 2, 1) := by decide +kernel
theorem f_151_34 : decode (mB 151) 34 = .ok (.iload_n 3, 1) := by decide +kernel
theorem f_151_35 : decode (mB 151) 35 = .ok (.invokevirtual 37, 3) := by decide +kernel
theorem f_151_38 : decode (mB 151) 38 = .ok (.invokestatic 41, 3) := by decide +kernel
theorem f_151_41 : decode (mB 151) 41 = .ok (.istore 5, 2) := by decide +kernel
theorem f_151_43 : decode (mB 151) 43 = .ok (.iinc 6 1, 3) := by decide +kernel
theorem f_151_46 : decode (mB 151) 46 = .ok (.goto (-26), 3) := by decide +kernel
theorem f_151_49 : decode (mB 151) 49 = .ok (.iload 5, 2) := by decide +kernel
theorem f_151_51 : decode (mB 151) 51 = .ok (.ireturn, 1) := by decide +kernel
theorem f_152_0 : decode (mB 152) 0 = .ok (.bipush 9, 2) := by decide +kernel
theorem f_152_2 : decode (mB 152) 2 = .ok (.iload_n 0, 1) := by decide +kernel
theorem f_152_3 : decode (mB 152) 3 = .ok (.iload_n 1, 1) := by decide +kernel
theorem f_152_4 : decode (mB 152) 4 = .ok (.invokestatic 41, 3) := by decide +kernel
theorem f_152_7 : decode (mB 152) 7 = .ok (.invokestatic 41, 3) := by decide +kernel
theorem f_152_10 : decode (mB 152) 10 = .ok (.ireturn, 1) := by decide +kernel
theorem f_153_0 : decode (mB 153) 0 = .ok (.iload_n 2, 1) := by decide +kernel
theorem f_153_1 : decode (mB 153) 1 = .ok (.iload_n 1, 1) := by decide +kernel
theorem f_153_2 : decode (mB 153) 2 = .ok (.isub, 1) := by decide +kernel
theorem f_153_3 : decode (mB 153) 3 = .ok (.istore 5, 2) := by decide +kernel
theorem f_153_5 : decode (mB 153) 5 = .ok (.iload 5, 2) := by decide +kernel
theorem f_153_7 : decode (mB 153) 7 = .ok (.invokestatic 46, 3) := by decide +kernel
theorem f_153_10 : decode (mB 153) 10 = .ok (.aload_n 0, 1) := by decide +kernel
theorem f_153_11 : decode (mB 153) 11 = .ok (.iload 5, 2) := by decide +kernel
theorem f_153_13 : decode (mB 153) 13 = .ok (.invokestatic 50, 3) := by decide +kernel
theorem f_153_16 : decode (mB 153) 16 = .ok (.iload_n 3, 1) := by decide +kernel
theorem f_153_17 : decode (mB 153) 17 = .ok (.iload_n 1, 1) := by decide +kernel
theorem f_153_18 : decode (mB 153) 18 = .ok (.isub, 1) := by decide +kernel
theorem f_153_19 : decode (mB 153) 19 = .ok (.iload 4, 2) := by decide +kernel
theorem f_153_21 : decode (mB 153) 21 = .ok (.iconst 1, 1) := by decide +kernel
theorem f_153_22 : decode (mB 153) 22 = .ok (.isub, 1) := by decide +kernel
theorem f_153_23 : decode (mB 153) 23 = .ok (.invokevirtual 53, 3) := by decide +kernel
theorem f_153_26 : decode (mB 153) 26 = .ok (.iadd, 1) := by decide +kernel
theorem f_153_27 : decode (mB 153) 27 = .ok (.ireturn, 1) := by decide +kernel
theorem f_154_0 : decode (mB 154) 0 = .ok (.iconst 0, 1) := by decide +kernel
theorem f_154_1 : decode (mB 154) 1 = .ok (.bipush 10, 2) := by decide +kernel
theorem f_154_3 : decode (mB 154) 3 = .ok (.iload_n 0, 1) := by decide +kernel
theorem f_154_4 : decode (mB 154) 4 = .ok (.isub, 1) := by decide +kernel
theorem f_154_5 : decode (mB 154) 5 = .ok (.invokestatic 69, 3) := by decide +kernel
theorem f_154_8 : decode (mB 154) 8 = .ok (.ireturn, 1) := by decide +kernel
theorem f_155_0 : decode (mB 155) 0 = .ok (.bipush 60, 2) := by decide +kernel
theorem f_155_2 : decode (mB 155) 2 = .ok (.iconst 0, 1) := by decide +kernel
theorem f_155_3 : decode (mB 155) 3 = .ok (.iload_n 0, 1) := by decide +kernel
theorem f_155_4 : decode (mB 155) 4 = .ok (.bipush 10, 2) := by decide +kernel
theorem f_155_6 : decode (mB 155) 6 = .ok (.isub, 1) := by decide +kernel
theorem f_155_7 : decode (mB 155) 7 = .ok (.invokestatic 69, 3) := by decide +kernel
theorem f_155_10 : decode (mB 155) 10 = .ok (.invokestatic 41, 3) := by decide +kernel
theorem f_155_13 : decode (mB 155) 13 = .ok (.ireturn, 1) := by decide +kernel
theorem f_156_0 : decode (mB 156) 0 = .ok (.iload_n 1, 1) := by decide +kernel
theorem f_156_1 : decode (mB 156) 1 = .ok (.iload_n 2, 1) := by decide +kernel
theorem f_156_2 : decode (mB 156) 2 = .ok (.iload_n 3, 1) := by decide +kernel
theorem f_156_3 : decode (mB 156) 3 = .ok (.iload 4, 2) := by decide +kernel
theorem f_156_5 : decode (mB 156) 5 = .ok (.invokestatic 335, 3) := by decide +kernel
theorem f_156_8 : decode (mB 156) 8 = .ok (.ifCond .eq 7, 3) := by decide +kernel
theorem f_156_11 : decode (mB 156) 11 = .ok (.iload_n 3, 1) := by decide +kernel
theorem f_156_12 : decode (mB 156) 12 = .ok (.ifCond .ne 10, 3) := by decide +kernel
theorem f_156_15 : decode (mB 156) 15 = .ok (.aload_n 0, 1) := by decide +kernel
theorem f_156_16 : decode (mB 156) 16 = .ok (.ldc 83, 2) := by decide +kernel
theorem f_156_18 : decode (mB 156) 18 = .ok (.invokevirtual 84, 3) := by decide +kernel
theorem f_156_21 : decode (mB 156) 21 = .ok (.ireturn, 1) := by decide +kernel
theorem f_156_22 : decode (mB 156) 22 = .ok (.iload 4, 2) := by decide +kernel
theorem f_156_24 : decode (mB 156) 24 = .ok (.bipush 100, 2) := by decide +kernel
theorem f_156_26 : decode (mB 156) 26 = .ok (.idiv, 1) := by decide +kernel
theorem f_156_27 : decode (mB 156) 27 = .ok (.istore 6, 2) := by decide +kernel
theorem f_156_29 : decode (mB 156) 29 = .ok (.iload 4, 2) := by decide +kernel
theorem f_156_31 : decode (mB 156) 31 = .ok (.bipush 100, 2) := by decide +kernel
theorem f_156_33 : decode (mB 156) 33 = .ok (.irem, 1) := by decide +kernel
theorem f_156_34 : decode (mB 156) 34 = .ok (.istore 7, 2) := by decide +kernel
theorem f_156_36 : decode (mB 156) 36 = .ok (.iload 5, 2) := by decide +kernel
theorem f_156_38 : decode (mB 156) 38 = .ok (.iload 6, 2) := by decide +kernel
theorem f_156_40 : decode (mB 156) 40 = .ok (.if_icmp .eq 17, 3) := by decide +kernel
theorem f_156_43 : decode (mB 156) 43 = .ok (.iload 5, 2) := by decide +kernel
theorem f_156_45 : decode (mB 156) 45 = .ok (.iload 7, 2) := by decide +kernel
theorem f_156_47 : decode (mB 156) 47 = .ok (.if_icmp .eq 10, 3) := by decide +kernel
theorem f_156_50 : decode (mB 156) 50 = .ok (.aload_n 0, 1) := by decide +kernel
theorem f_156_51 : decode (mB 156) 51 = .ok (.ldc 182, 2) := by decide +kernel
theorem f_156_53 : decode (mB 156) 53 = .ok (.invokevirtual 84, 3) := by decide +kernel
theorem f_156_56 : decode (mB 156) 56 = .ok (.ireturn, 1) := by decide +kernel
theorem f_156_57 : decode (mB 156) 57 = .ok (.aload_n 0, 1) := by decide +kernel
theorem f_156_58 : decode (mB 156) 58 = .ok (.getfield 47, 3) := by decide +kernel
theorem f_156_61 : decode (mB 156) 61 = .ok (.iload 6, 2) := by decide +kernel
theorem f_156_63 : decode (mB 156) 63 = .ok (.invokevirtual 339, 3) := by decide +kernel
theorem f_156_66 : decode (mB 156) 66 = .ok (.aload_n 0, 1) := by decide +kernel
theorem f_156_67 : decode (mB 156) 67 = .ok (.getfield 47, 3) := by decide +kernel
theorem f_156_70 : decode (mB 156) 70 = .ok (.iload_n 1, 1) := by decide +kernel
theorem f_156_71 : decode (mB 156) 71 = .ok (.iload 5, 2) := by decide +kernel
theorem f_156_73 : decode (mB 156) 73 = .ok (.iadd, 1) := by decide +kernel
theorem f_156_74 : decode (mB 156) 74 = .ok (.iload_n 2, 1) := by decide +kernel
theorem f_156_75 : decode (mB 156) 75 = .ok (.iload_n 3, 1) := by decide +kernel
theorem f_156_76 : decode (mB 156) 76 = .ok (.invokevirtual 347, 3) := by decide +kernel
theorem f_156_79 : decode (mB 156) 79 = .ok (.ireturn, 1) := by decide +kernel
theorem f_157_0 : decode (mB 157) 0 = .ok (.iload_n 1, 1) := by decide +kernel
theorem f_157_1 : decode (mB 157) 1 = .ok (.iload_n 2, 1) := by decide +kernel
theorem f_157_2 : decode (mB 157) 2 = .ok (.invokestatic 33, 3) := by decide +kernel
theorem f_157_5 : decode (mB 157) 5 = .ok (.istore 4, 2) := by decide +kernel
theorem f_157_7 : decode (mB 157) 7 = .ok (.aload_n 0, 1) := by decide +kernel
theorem f_157_8 : decode (mB 157) 8 = .ok (.iload_n 1, 1) := by decide +kernel
theorem f_157_9 : decode (mB 157) 9 = .ok (.iload_n 2, 1) := by decide +kernel
theorem f_157_10 : decode (mB 157) 10 = .ok (.iload_n 3, 1) := by decide +kernel
theorem f_157_11 : decode (mB 157) 11 = .ok (.invokevirtual 29, 3) := by decide +kernel
theorem f_157_14 : decode (mB 157) 14 = .ok (.istore 5, 2) := by decide +kernel
theorem f_157_16 : decode (mB 157) 16 = .ok (.iconst 0, 1) := by decide +kernel
theorem f_157_17 : decode (mB 157) 17 = .ok (.istore 6, 2) := by decide +kernel
theorem f_157_19 : decode (mB 157) 19 = .ok (.iload 6, 2) := by decide +kernel
theorem f_157_21 : decode (mB 157) 21 = .ok (.iload 4, 2) := by decide +kernel
theorem f_157_23 : decode (mB 157) 23 = .ok (.if_icmp .ge 23, 3) := by decide +kernel
theorem f_157_26 : decode (mB 157) 26 = .ok (.aload_n 0, 1) := by decide +kernel
theorem f_157_27 : decode (mB 157) 27 = .ok (.iload 6, 2) := by decide +kernel
theorem f_157_29 : decode (mB 157) 29 = .ok (.iload_n 1, 1) := by decide +kernel
theorem f_157_30 : decode (mB 157) 30 = .ok (.iload_n 2, 1) := by decide +kernel
theorem f_157_31 : decode (mB 157) 31 = .ok (.iload_n 3, 1) := by decide +kernel
theorem f_157_32 : decode (mB 157) 32 = .ok (.invokevirtual 37, 3) := by decide +kernel
theorem f_157_35 : decode (mB 157) 35 = .ok (.iload 5, 2) := by decide +kernel
theorem f_157_37 : decode (mB 157) 37 = .ok (.if_icmp .le 9, 3) := by decide +kernel
theorem f_157_40 : decode (mB 157) 40 = .ok (.iinc 6 1, 3) := by decide +kernel
theorem f_157_43 : decode (mB 157) 43 = .ok (.goto (-24), 3) := by decide +kernel
theorem f_157_46 : decode (mB 157) 46 = .ok (.iload 6, 2) := by decide +kernel
theorem f_157_48 : decode (mB 157) 48 = .ok (.ireturn, 1) := by decide +kernel
theorem f_158_0 : decode (mB 158) 0 = .ok (.iload_n 1, 1) := by decide +kernel
theorem f_158_1 : decode (mB 158) 1 = .ok (.invokestatic 350, 3) := by decide +kernel
theorem f_158_4 : decode (mB 158) 4 = .ok (.ifCond .eq 29, 3) := by decide +kernel
theorem f_158_7 : decode (mB 158) 7 = .ok (.iload_n 2, 1) := by decide +kernel
theorem f_158_8 : decode (mB 158) 8 = .ok (.invokestatic 350, 3) := by decide +kernel
theorem f_158_11 : decode (mB 158) 11 = .ok (.ifCond .eq 22, 3) := by decide +kernel
theorem f_158_14 : decode (mB 158) 14 = .ok (.iload_n 3, 1) := by decide +kernel
theorem f_158_15 : decode (mB 158) 15 = .ok (.iconst 0, 1) := by decide +kernel
theorem f_158_16 : decode (mB 158) 16 = .ok (.sipush 999, 3) := by decide +kernel
theorem f_158_19 : decode (mB 158) 19 = .ok (.invokestatic 75, 3) := by decide +kernel
theorem f_158_22 : decode (mB 158) 22 = .ok (.ifCond .eq 11, 3) := by decide +kernel
theorem f_158_25 : decode (mB 158) 25 = .ok (.iload 4, 2) := by decide +kernel
theorem f_158_27 : decode (mB 158) 27 = .ok (.invokestatic 322, 3) := by decide +kernel
theorem f_158_30 : decode (mB 158) 30 = .ok (.ifCond .ne 10, 3) := by decide +kernel
theorem f_158_33 : decode (mB 158) 33 = .ok (.aload_n 0, 1) := by decide +kernel
theorem f_158_34 : decode (mB 158) 34 = .ok (.ldc 83, 2) := by decide +kernel
theorem f_158_36 : decode (mB 158) 36 = .ok (.invokevirtual 84, 3) := by decide +kernel
theorem f_158_39 : decode (mB 158) 39 = .ok (.ireturn, 1) := by decide +kernel
theorem f_158_40 : decode (mB 158) 40 = .ok (.aload_n 0, 1) := by decide +kernel
theorem f_158_41 : decode (mB 158) 41 = .ok (.getfield 53, 3) := by decide +kernel
theorem f_158_44 : decode (mB 158) 44 = .ok (.iload 4, 2) := by decide +kernel
theorem f_158_46 : decode (mB 158) 46 = .ok (.aaload, 1) := by decide +kernel
theorem f_158_47 : decode (mB 158) 47 = .ok (.invokevirtual 325, 3) := by decide +kernel
theorem f_158_50 : decode (mB 158) 50 = .ok (.ifCond .eq 10, 3) := by decide +kernel
theorem f_158_53 : decode (mB 158) 53 = .ok (.aload_n 0, 1) := by decide +kernel
theorem f_158_54 : decode (mB 158) 54 = .ok (.ldc 184, 2) := by decide +kernel
theorem f_158_56 : decode (mB 158) 56 = .ok (.invokevirtual 84, 3) := by decide +kernel
theorem f_158_59 : decode (mB 158) 59 = .ok (.ireturn, 1) := by decide +kernel
theorem f_158_60 : decode (mB 158) 60 = .ok (.aload_n 0, 1) := by decide +kernel
theorem f_158_61 : decode (mB 158) 61 = .ok (.getfield 47, 3) := by decide +kernel
theorem f_158_64 : decode (mB 158) 64 = .ok (.iload_n 1, 1) := by decide +kernel
theorem f_158_65 : decode (mB 158) 65 = .ok (.iload_n 2, 1) := by decide +kernel
theorem f_158_66 : decode (mB 158) 66 = .ok (.iload_n 3, 1) := by decide +kernel
theorem f_158_67 : decode (mB 158) 67 = .ok (.aload_n 0, 1) := by decide +kernel
theorem f_158_68 : decode (mB 158) 68 = .ok (.getfield 53, 3) := by decide +kernel
theorem f_158_71 : decode (mB 158) 71 = .ok (.iload 4, 2) := by decide +kernel
theorem f_158_73 : decode (mB 158) 73 = .ok (.aaload, 1) := by decide +kernel
theorem f_158_74 : decode (mB 158) 74 = .ok (.invokevirtual 353, 3) := by decide +kernel
theorem f_158_77 : decode (mB 158) 77 = .ok (.ireturn, 1) := by decide +kernel
theorem f_159_0 : decode (mB 159) 0 = .ok (.iload_n 1, 1) := by decide +kernel
theorem f_159_1 : decode (mB 159) 1 = .ok (.istore 5, 2) := by decide +kernel
theorem f_159_3 : decode (mB 159) 3 = .ok (.iload_n 2, 1) := by decide +kernel
theorem f_159_4 : decode (mB 159) 4 = .ok (.istore 6, 2) := by decide +kernel
theorem f_159_6 : decode (mB 159) 6 = .ok (.iconst 0, 1) := by decide +kernel
theorem f_159_7 : decode (mB 159) 7 = .ok (.istore 7, 2) := by decide +kernel
theorem f_159_9 : decode (mB 159) 9 = .ok (.iconst 0, 1) := by decide +kernel
theorem f_159_10 : decode (mB 159) 10 = .ok (.istore 8, 2) := by decide +kernel
theorem f_159_12 : decode (mB 159) 12 = .ok (.iload 8, 2) := by decide +kernel
theorem f_159_14 : decode (mB 159) 14 = .ok (.iconst 1, 1) := by decide +kernel
theorem f_159_15 : decode (mB 159) 15 = .ok (.iadd, 1) := by decide +kernel
theorem f_159_16 : decode (mB 159) 16 = .ok (.aload 4, 2) := by decide +kernel
theorem f_159_18 : decode (mB 159) 18 = .ok (.getfield 56, 3) := by decide +kernel
theorem f_159_21 : decode (mB 159) 21 = .ok (.if_icmp .ge 100, 3) := by decide +kernel
theorem f_159_24 : decode (mB 159) 24 = .ok (.aload 4, 2) := by decide +kernel
theorem f_159_26 : decode (mB 159) 26 = .ok (.getfield 61, 3) := by decide +kernel
theorem f_159_29 : decode (mB 159) 29 = .ok (.iload 8, 2) := by decide +kernel
theorem f_159_31 : decode (mB 159) 31 = .ok (.iaload, 1) := by decide +kernel
theorem f_159_32 : decode (mB 159) 32 = .ok (.istore 9, 2) := by decide +kernel
theorem f_159_34 : decode (mB 159) 34 = .ok (.iload 9, 2) := by decide +kernel
theorem f_159_36 : decode (mB 159) 36 = .ok (.invokestatic 65, 3) := by decide +kernel
theorem f_159_39 : decode (mB 159) 39 = .ok (.ifCond .ne 6, 3) := by decide +kernel
theorem f_159_42 : decode (mB 159) 42 = .ok (.iload 8, 2) := by decide +kernel
theorem f_159_44 : decode (mB 159) 44 = .ok (.ireturn, 1) := by decide +kernel
theorem f_159_45 : decode (mB 159) 45 = .ok (.aload 4, 2) := by decide +kernel
theorem f_159_47 : decode (mB 159) 47 = .ok (.getfield 61, 3) := by decide +kernel
theorem f_159_50 : decode (mB 159) 50 = .ok (.iload 8, 2) := by decide +kernel
theorem f_159_52 : decode (mB 159) 52 = .ok (.iconst 1, 1) := by decide +kernel
theorem f_159_53 : decode (mB 159) 53 = .ok (.iadd, 1) := by decide +kernel
theorem f_159_54 : decode (mB 159) 54 = .ok (.iaload, 1) := by decide +kernel
theorem f_159_55 : decode (mB 159) 55 = .ok (.istore 10, 2) := by decide +kernel
theorem f_159_57 : decode (mB 159) 57 = .ok (.iload 10, 2) := by decide +kernel
theorem f_159_59 : decode (mB 159) 59 = .ok (.iconst 0, 1) := by decide +kernel
theorem f_159_60 : decode (mB 159) 60 = .ok (.iload 5, 2) := by decide +kernel
theorem f_159_62 : decode (mB 159) 62 = .ok (.iload 9, 2) := by decide +kernel
theorem f_159_64 : decode (mB 159) 64 = .ok (.iadd, 1) := by decide +kernel
theorem f_159_65 : decode (mB 159) 65 = .ok (.iload 6, 2) := by decide +kernel
theorem f_159_67 : decode (mB 159) 67 = .ok (.invokestatic 33, 3) := by decide +kernel
theorem f_159_70 : decode (mB 159) 70 = .ok (.invokestatic 25, 3) := by decide +kernel
theorem f_159_73 : decode (mB 159) 73 = .ok (.ifCond .ne 8, 3) := by decide +kernel
theorem f_159_76 : decode (mB 159) 76 = .ok (.iload 8, 2) := by decide +kernel
theorem f_159_78 : decode (mB 159) 78 = .ok (.iconst 1, 1) := by decide +kernel
theorem f_159_79 : decode (mB 159) 79 = .ok (.iadd, 1) := by decide +kernel
theorem f_159_80 : decode (mB 159) 80 = .ok (.ireturn, 1) := by decide +kernel
theorem f_159_81 : decode (mB 159) 81 = .ok (.iload 5, 2) := by decide +kernel
theorem f_159_83 : decode (mB 159) 83 = .ok (.iload 9, 2) := by decide +kernel
theorem f_159_85 : decode (mB 159) 85 = .ok (.iadd, 1) := by decide +kernel
theorem f_159_86 : decode (mB 159) 86 = .ok (.iload 10, 2) := by decide +kernel
theorem f_159_88 : decode (mB 159) 88 = .ok (.isub, 1) := by decide +kernel
theorem f_159_89 : decode (mB 159) 89 = .ok (.istore 11, 2) := by decide +kernel
theorem f_159_91 : decode (mB 159) 91 = .ok (.iload 7, 2) := by decide +kernel
theorem f_159_93 : decode (mB 159) 93 = .ok (.iload 11, 2) := by decide +kernel
theorem f_159_95 : decode (mB 159) 95 = .ok (.invokestatic 46, 3) := by decide +kernel
theorem f_159_98 : decode (mB 159) 98 = .ok (.iadd, 1) := by decide +kernel
theorem f_159_99 : decode (mB 159) 99 = .ok (.istore 7, 2) := by decide +kernel
theorem f_159_101 : decode (mB 159) 101 = .ok (.iload 11, 2) := by decide +kernel
theorem f_159_103 : decode (mB 159) 103 = .ok (.invokestatic 50, 3) := by decide +kernel
theorem f_159_106 : decode (mB 159) 106 = .ok (.istore 5, 2) := by decide +kernel
theorem f_159_108 : decode (mB 159) 108 = .ok (.iload 6, 2) := by decide +kernel
theorem f_159_110 : decode (mB 159) 110 = .ok (.iload 10, 2) := by decide +kernel
theorem f_159_112 : decode (mB 159) 112 = .ok (.isub, 1) := by decide +kernel
theorem f_159_113 : decode (mB 159) 113 = .ok (.istore 6, 2) := by decide +kernel
theorem f_159_115 : decode (mB 159) 115 = .ok (.iinc 8 2, 3) := by decide +kernel
theorem f_159_118 : decode (mB 159) 118 = .ok (.goto (-106), 3) := by decide +kernel
theorem f_159_121 : decode (mB 159) 121 = .ok (.iload 7, 2) := by decide +kernel
theorem f_159_123 : decode (mB 159) 123 = .ok (.iconst 2, 1) := by decide +kernel
theorem f_159_124 : decode (mB 159) 124 = .ok (.iload 6, 2) := by decide +kernel
theorem f_159_126 : decode (mB 159) 126 = .ok (.imul, 1) := by decide +kernel
theorem f_159_127 : decode (mB 159) 127 = .ok (.iadd, 1) := by decide +kernel
theorem f_159_128 : decode (mB 159) 128 = .ok (.iload_n 3, 1) := by decide +kernel
theorem f_159_129 : decode (mB 159) 129 = .ok (.if_icmp .le 11, 3) := by decide +kernel
theorem f_159_132 : decode (mB 159) 132 = .ok (.aload 4, 2) := by decide +kernel
theorem f_159_134 : decode (mB 159) 134 = .ok (.getfield 56, 3) := by decide +kernel
theorem f_159_137 : decode (mB 159) 137 = .ok (.goto 4, 3) := by decide +kernel
theorem f_159_140 : decode (mB 159) 140 = .ok (.iconst (-1), 1) := by decide +kernel
theorem f_159_141 : decode (mB 159) 141 = .ok (.ireturn, 1) := by decide +kernel
theorem f_160_0 : decode (mB 160) 0 = .ok (.iload_n 1, 1) := by decide +kernel
theorem f_160_1 : decode (mB 160) 1 = .ok (.invokestatic 322, 3) := by decide +kernel
theorem f_160_4 : decode (mB 160) 4 = .ok (.ifCond .eq 25, 3) := by decide +kernel
theorem f_160_7 : decode (mB 160) 7 = .ok (.iload_n 2, 1) := by decide +kernel
theorem f_160_8 : decode (mB 160) 8 = .ok (.ifCond .eq 28, 3) := by decide +kernel
theorem f_160_11 : decode (mB 160) 11 = .ok (.iload_n 2, 1) := by decide +kernel
theorem f_160_12 : decode (mB 160) 12 = .ok (.bipush 8, 2) := by decide +kernel
theorem f_160_14 : decode (mB 160) 14 = .ok (.if_icmp .eq 22, 3) := by decide +kernel
theorem f_160_17 : decode (mB 160) 17 = .ok (.iload_n 2, 1) := by decide +kernel
theorem f_160_18 : decode (mB 160) 18 = .ok (.bipush 16, 2) := by decide +kernel
theorem f_160_20 : decode (mB 160) 20 = .ok (.if_icmp .eq 16, 3) := by decide +kernel
theorem f_160_23 : decode (mB 160) 23 = .ok (.iload_n 2, 1) := by decide +kernel
theorem f_160_24 : decode (mB 160) 24 = .ok (.bipush 32, 2) := by decide +kernel
theorem f_160_26 : decode (mB 160) 26 = .ok (.if_icmp .eq 10, 3) := by decide +kernel
theorem f_160_29 : decode (mB 160) 29 = .ok (.aload_n 0, 1) := by decide +kernel
theorem f_160_30 : decode (mB 160) 30 = .ok (.ldc 83, 2) := by decide +kernel
theorem f_160_32 : decode (mB 160) 32 = .ok (.invokevirtual 84, 3) := by decide +kernel
theorem f_160_35 : decode (mB 160) 35 = .ok (.ireturn, 1) := by decide +kernel
theorem f_160_36 : decode (mB 160) 36 = .ok (.iload_n 3, 1) := by decide +kernel
theorem f_160_37 : decode (mB 160) 37 = .ok (.ifCond .ge 10, 3) := by decide +kernel
theorem f_160_40 : decode (mB 160) 40 = .ok (.aload_n 0, 1) := by decide +kernel
theorem f_160_41 : decode (mB 160) 41 = .ok (.ldc 183, 2) := by decide +kernel
theorem f_160_43 : decode (mB 160) 43 = .ok (.invokevirtual 84, 3) := by decide +kernel
theorem f_160_46 : decode (mB 160) 46 = .ok (.ireturn, 1) := by decide +kernel
theorem f_160_47 : decode (mB 160) 47 = .ok (.iload_n 3, 1) := by decide +kernel
theorem f_160_48 : decode (mB 160) 48 = .ok (.bipush 20, 2) := by decide +kernel
theorem f_160_50 : decode (mB 160) 50 = .ok (.if_icmp .le 10, 3) := by decide +kernel
theorem f_160_53 : decode (mB 160) 53 = .ok (.aload_n 0, 1) := by decide +kernel
theorem f_160_54 : decode (mB 160) 54 = .ok (.ldc 83, 2) := by decide +kernel
theorem f_160_56 : decode (mB 160) 56 = .ok (.invokevirtual 84, 3) := by decide +kernel
theorem f_160_59 : decode (mB 160) 59 = .ok (.ireturn, 1) := by decide +kernel
theorem f_160_60 : decode (mB 160) 60 = .ok (.aload_n 0, 1) := by decide +kernel
theorem f_160_61 : decode (mB 160) 61 = .ok (.getfield 53, 3) := by decide +kernel
theorem f_160_64 : decode (mB 160) 64 = .ok (.iload_n 1, 1) := by decide +kernel
theorem f_160_65 : decode (mB 160) 65 = .ok (.aaload, 1) := by decide +kernel
theorem f_160_66 : decode (mB 160) 66 = .ok (.iload_n 2, 1) := by decide +kernel
theorem f_160_67 : decode (mB 160) 67 = .ok (.iload_n 2, 1) := by decide +kernel
theorem f_160_68 : decode (mB 160) 68 = .ok (.ifCond .ne 7, 3) := by decide +kernel
theorem f_160_71 : decode (mB 160) 71 = .ok (.iconst 0, 1) := by decide +kernel
theorem f_160_72 : decode (mB 160) 72 = .ok (.goto 4, 3) := by decide +kernel
theorem f_160_75 : decode (mB 160) 75 = .ok (.iload_n 3, 1) := by decide +kernel
theorem f_160_76 : decode (mB 160) 76 = .ok (.invokevirtual 357, 3) := by decide +kernel
theorem f_160_79 : decode (mB 160) 79 = .ok (.aload_n 0, 1) := by decide +kernel
theorem f_160_80 : decode (mB 160) 80 = .ok (.getfield 53, 3) := by decide +kernel
theorem f_160_83 : decode (mB 160) 83 = .ok (.iload_n 1, 1) := by decide +kernel
theorem f_160_84 : decode (mB 160) 84 = .ok (.aaload, 1) := by decide +kernel
theorem f_160_85 : decode (mB 160) 85 = .ok (.getfield 328, 3) := by decide +kernel
theorem f_160_88 : decode (mB 160) 88 = .ok (.ireturn, 1) := by decide +kernel
theorem f_161_0 : decode (mB 161) 0 = .ok (.aload_n 0, 1) := by decide +kernel
theorem f_161_1 : decode (mB 161) 1 = .ok (.iload_n 1, 1) := by decide +kernel
theorem f_161_2 : decode (mB 161) 2 = .ok (.putfield 13, 3) := by decide +kernel
theorem f_161_5 : decode (mB 161) 5 = .ok (.aload_n 0, 1) := by decide +kernel
theorem f_161_6 : decode (mB 161) 6 = .ok (.iload_n 2, 1) := by decide +kernel
theorem f_161_7 : decode (mB 161) 7 = .ok (.putfield 17, 3) := by decide +kernel
theorem f_161_10 : decode (mB 161) 10 = .ok (.aload_n 0, 1) := by decide +kernel
theorem f_161_11 : decode (mB 161) 11 = .ok (.getfield 9, 3) := by decide +kernel
theorem f_161_14 : decode (mB 161) 14 = .ok (.iconst 0, 1) := by decide +kernel
theorem f_161_15 : decode (mB 161) 15 = .ok (.invokestatic 20, 3) := by decide +kernel
theorem f_161_18 : decode (mB 161) 18 = .ok (.return_, 1) := by decide +kernel
theorem f_162_0 : decode (mB 162) 0 = .ok (.iload_n 1, 1) := by decide +kernel
theorem f_162_1 : decode (mB 162) 1 = .ok (.invokestatic 322, 3) := by decide +kernel
theorem f_162_4 : decode (mB 162) 4 = .ok (.ifCond .ne 10, 3) := by decide +kernel
theorem f_162_7 : decode (mB 162) 7 = .ok (.aload_n 0, 1) := by decide +kernel
theorem f_162_8 : decode (mB 162) 8 = .ok (.ldc 83, 2) := by decide +kernel
theorem f_162_10 : decode (mB 162) 10 = .ok (.invokevirtual 84, 3) := by decide +kernel
theorem f_162_13 : decode (mB 162) 13 = .ok (.ireturn, 1) := by decide +kernel
theorem f_162_14 : decode (mB 162) 14 = .ok (.aload_n 0, 1) := by decide +kernel
theorem f_162_15 : decode (mB 162) 15 = .ok (.getfield 53, 3) := by decide +kernel
theorem f_162_18 : decode (mB 162) 18 = .ok (.iload_n 1, 1) := by decide +kernel
theorem f_162_19 : decode (mB 162) 19 = .ok (.aaload, 1) := by decide +kernel
theorem f_162_20 : decode (mB 162) 20 = .ok (.invokevirtual 325, 3) := by decide +kernel
theorem f_162_23 : decode (mB 162) 23 = .ok (.ifCond .eq 10, 3) := by decide +kernel
theorem f_162_26 : decode (mB 162) 26 = .ok (.aload_n 0, 1) := by decide +kernel
theorem f_162_27 : decode (mB 162) 27 = .ok (.ldc 184, 2) := by decide +kernel
theorem f_162_29 : decode (mB 162) 29 = .ok (.invokevirtual 84, 3) := by decide +kernel
theorem f_162_32 : decode (mB 162) 32 = .ok (.ireturn, 1) := by decide +kernel
theorem f_162_33 : decode (mB 162) 33 = .ok (.iload_n 2, 1) := by decide +kernel
theorem f_162_34 : decode (mB 162) 34 = .ok (.iconst 0, 1) := by decide +kernel
theorem f_162_35 : decode (mB 162) 35 = .ok (.aload_n 0, 1) := by decide +kernel
theorem f_162_36 : decode (mB 162) 36 = .ok (.getfield 53, 3) := by decide +kernel
theorem f_162_39 : decode (mB 162) 39 = .ok (.iload_n 1, 1) := by decide +kernel
theorem f_162_40 : decode (mB 162) 40 = .ok (.aaload, 1) := by decide +kernel
theorem f_162_41 : decode (mB 162) 41 = .ok (.getfield 328, 3) := by decide +kernel
theorem f_162_44 : decode (mB 162) 44 = .ok (.iconst 1, 1) := by decide +kernel
theorem f_162_45 : decode (mB 162) 45 = .ok (.isub, 1) := by decide +kernel
theorem f_162_46 : decode (mB 162) 46 = .ok (.invokestatic 75, 3) := by decide +kernel
theorem f_162_49 : decode (mB 162) 49 = .ok (.ifCond .ne 10, 3) := by decide +kernel
theorem f_162_52 : decode (mB 162) 52 = .ok (.aload_n 0, 1) := by decide +kernel
theorem f_162_53 : decode (mB 162) 53 = .ok (.ldc 83, 2) := by decide +kernel
theorem f_162_55 : decode (mB 162) 55 = .ok (.invokevirtual 84, 3) := by decide +kernel
theorem f_162_58 : decode (mB 162) 58 = .ok (.ireturn, 1) := by decide +kernel
theorem f_162_59 : decode (mB 162) 59 = .ok (.aload_n 0, 1) := by decide +kernel
theorem f_162_60 : decode (mB 162) 60 = .ok (.getfield 53, 3) := by decide +kernel
theorem f_162_63 : decode (mB 162) 63 = .ok (.iload_n 1, 1) := by decide +kernel
theorem f_162_64 : decode (mB 162) 64 = .ok (.aaload, 1) := by decide +kernel
theorem f_162_65 : decode (mB 162) 65 = .ok (.iload_n 2, 1) := by decide +kernel
theorem f_162_66 : decode (mB 162) 66 = .ok (.iload_n 3, 1) := by decide +kernel
theorem f_162_67 : decode (mB 162) 67 = .ok (.invokevirtual 360, 3) := by decide +kernel
theorem f_162_70 : decode (mB 162) 70 = .ok (.iconst 0, 1) := by decide +kernel
theorem f_162_71 : decode (mB 162) 71 = .ok (.ireturn, 1) := by decide +kernel
theorem f_163_0 : decode (mB 163) 0 = .ok (.aload_n 0, 1) := by decide +kernel
theorem f_163_1 : decode (mB 163) 1 = .ok (.getfield 9, 3) := by decide +kernel
theorem f_163_4 : decode (mB 163) 4 = .ok (.iload_n 1, 1) := by decide +kernel
theorem f_163_5 : decode (mB 163) 5 = .ok (.aload_n 0, 1) := by decide +kernel
theorem f_163_6 : decode (mB 163) 6 = .ok (.getfield 13, 3) := by decide +kernel
theorem f_163_9 : decode (mB 163) 9 = .ok (.bipush 8, 2) := by decide +kernel
theorem f_163_11 : decode (mB 163) 11 = .ok (.if_icmp .ne 8, 3) := by decide +kernel
theorem f_163_14 : decode (mB 163) 14 = .ok (.iload_n 2, 1) := by decide +kernel
theorem f_163_15 : decode (mB 163) 15 = .ok (.i2b, 1) := by decide +kernel
theorem f_163_16 : decode (mB 163) 16 = .ok (.goto 18, 3) := by decide +kernel
theorem f_163_19 : decode (mB 163) 19 = .ok (.aload_n 0, 1) := by decide +kernel
theorem f_163_20 : decode (mB 163) 20 = .ok (.getfield 13, 3) := by decide +kernel
theorem f_163_23 : decode (mB 163) 23 = .ok (.bipush 16, 2) := by decide +kernel
theorem f_163_25 : decode (mB 163) 25 = .ok (.if_icmp .ne 8, 3) := by decide +kernel
theorem f_163_28 : decode (mB 163) 28 = .ok (.iload_n 2, 1) := by decide +kernel
theorem f_163_29 : decode (mB 163) 29 = .ok (.i2s, 1) := by decide +kernel
theorem f_163_30 : decode (mB 163) 30 = .ok (.goto 4, 3) := by decide +kernel
theorem f_163_33 : decode (mB 163) 33 = .ok (.iload_n 2, 1) := by decide +kernel
theorem f_163_34 : decode (mB 163) 34 = .ok (.iastore, 1) := by decide +kernel
theorem f_163_35 : decode (mB 163) 35 = .ok (.return_, 1) := by decide +kernel
theorem f_164_0 : decode (mB 164) 0 = .ok (.iload_n 1, 1) := by decide +kernel
theorem f_164_1 : decode (mB 164) 1 = .ok (.invokestatic 322, 3) := by decide +kernel
theorem f_164_4 : decode (mB 164) 4 = .ok (.ifCond .eq 10, 3) := by decide +kernel
theorem f_164_7 : decode (mB 164) 7 = .ok (.iload_n 3, 1) := by decide +kernel
theorem f_164_8 : decode (mB 164) 8 = .ok (.invokestatic 322, 3) := by decide +kernel
theorem f_164_11 : decode (mB 164) 11 = .ok (.ifCond .ne 10, 3) := by decide +kernel
theorem f_164_14 : decode (mB 164) 14 = .ok (.aload_n 0, 1) := by decide +kernel
theorem f_164_15 : decode (mB 164) 15 = .ok (.ldc 83, 2) := by decide +kernel
theorem f_164_17 : decode (mB 164) 17 = .ok (.invokevirtual 84, 3) := by decide +kernel
theorem f_164_20 : decode (mB 164) 20 = .ok (.ireturn, 1) := by decide +kernel
theorem f_164_21 : decode (mB 164) 21 = .ok (.aload_n 0, 1) := by decide +kernel
theorem f_164_22 : decode (mB 164) 22 = .ok (.getfield 53, 3) := by decide +kernel
theorem f_164_25 : decode (mB 164) 25 = .ok (.iload_n 1, 1) := by decide +kernel
theorem f_164_26 : decode (mB 164) 26 = .ok (.aaload, 1) := by decide +kernel
theorem f_164_27 : decode (mB 164) 27 = .ok (.invokevirtual 325, 3) := by decide +kernel
theorem f_164_30 : decode (mB 164) 30 = .ok (.ifCond .ne 15, 3) := by decide +kernel
theorem f_164_33 : decode (mB 164) 33 = .ok (.aload_n 0, 1) := by decide +kernel
theorem f_164_34 : decode (mB 164) 34 = .ok (.getfield 53, 3) := by decide +kernel
theorem f_164_37 : decode (mB 164) 37 = .ok (.iload_n 3, 1) := by decide +kernel
theorem f_164_38 : decode (mB 164) 38 = .ok (.aaload, 1) := by decide +kernel
theorem f_164_39 : decode (mB 164) 39 = .ok (.invokevirtual 325, 3) := by decide +kernel
theorem f_164_42 : decode (mB 164) 42 = .ok (.ifCond .eq 10, 3) := by decide +kernel
theorem f_164_45 : decode (mB 164) 45 = .ok (.aload_n 0, 1) := by decide +kernel
theorem f_164_46 : decode (mB 164) 46 = .ok (.ldc 184, 2) := by decide +kernel
theorem f_164_48 : decode (mB 164) 48 = .ok (.invokevirtual 84, 3) := by decide +kernel
theorem f_164_51 : decode (mB 164) 51 = .ok (.ireturn, 1) := by decide +kernel
theorem f_164_52 : decode (mB 164) 52 = .ok (.aload_n 0, 1) := by decide +kernel
theorem f_164_53 : decode (mB 164) 53 = .ok (.getfield 53, 3) := by decide +kernel
theorem f_164_56 : decode (mB 164) 56 = .ok (.iload_n 1, 1) := by decide +kernel
theorem f_164_57 : decode (mB 164) 57 = .ok (.aaload, 1) := by decide +kernel
theorem f_164_58 : decode (mB 164) 58 = .ok (.getfield 363, 3) := by decide +kernel
theorem f_164_61 : decode (mB 164) 61 = .ok (.aload_n 0, 1) := by decide +kernel
theorem f_164_62 : decode (mB 164) 62 = .ok (.getfield 53, 3) := by decide +kernel
theorem f_164_65 : decode (mB 164) 65 = .ok (.iload_n 3, 1) := by decide +kernel
theorem f_164_66 : decode (mB 164) 66 = .ok (.aaload, 1) := by decide +kernel
theorem f_164_67 : decode (mB 164) 67 = .ok (.getfield 363, 3) := by decide +kernel
theorem f_164_70 : decode (mB 164) 70 = .ok (.if_icmp .eq 10, 3) := by decide +kernel
theorem f_164_73 : decode (mB 164) 73 = .ok (.aload_n 0, 1) := by decide +kernel
theorem f_164_74 : decode (mB 164) 74 = .ok (.ldc 216, 2) := by decide +kernel
theorem f_164_76 : decode (mB 164) 76 = .ok (.invokevirtual 84, 3) := by decide +kernel
theorem f_164_79 : decode (mB 164) 79 = .ok (.ireturn, 1) := by decide +kernel
theorem f_164_80 : decode (mB 164) 80 = .ok (.aload_n 0, 1) := by decide +kernel
theorem f_164_81 : decode (mB 164) 81 = .ok (.getfield 53, 3) := by decide +kernel
theorem f_164_84 : decode (mB 164) 84 = .ok (.iload_n 1, 1) := by decide +kernel
theorem f_164_85 : decode (mB 164) 85 = .ok (.aaload, 1) := by decide +kernel
theorem f_164_86 : decode (mB 164) 86 = .ok (.iload_n 2, 1) := by decide +kernel
theorem f_164_87 : decode (mB 164) 87 = .ok (.iload 5, 2) := by decide +kernel
theorem f_164_89 : decode (mB 164) 89 = .ok (.invokevirtual 366, 3) := by decide +kernel
theorem f_164_92 : decode (mB 164) 92 = .ok (.ifCond .eq 19, 3) := by decide +kernel
theorem f_164_95 : decode (mB 164) 95 = .ok (.aload_n 0, 1) := by decide +kernel
theorem f_164_96 : decode (mB 164) 96 = .ok (.getfield 53, 3) := by decide +kernel
theorem f_164_99 : decode (mB 164) 99 = .ok (.iload_n 3, 1) := by decide +kernel
theorem f_164_100 : decode (mB 164) 100 = .ok (.aaload, 1) := by decide +kernel
theorem f_164_101 : decode (mB 164) 101 = .ok (.iload 4, 2) := by decide +kernel
theorem f_164_103 : decode (mB 164) 103 = .ok (.iload 5, 2) := by decide +kernel
theorem f_164_105 : decode (mB 164) 105 = .ok (.invokevirtual 366, 3) := by decide +kernel
theorem f_164_108 : decode (mB 164) 108 = .ok (.ifCond .ne 10, 3) := by decide +kernel
theorem f_164_111 : decode (mB 164) 111 = .ok (.aload_n 0, 1) := by decide +kernel
theorem f_164_112 : decode (mB 164) 112 = .ok (.ldc 83, 2) := by decide +kernel
theorem f_164_114 : decode (mB 164) 114 = .ok (.invokevirtual 84, 3) := by decide +kernel
theorem f_164_117 : decode (mB 164) 117 = .ok (.ireturn, 1) := by decide +kernel
theorem f_164_118 : decode (mB 164) 118 = .ok (.aload_n 0, 1) := by decide +kernel
theorem f_164_119 : decode (mB 164) 119 = .ok (.getfield 53, 3) := by decide +kernel
theorem f_164_122 : decode (mB 164) 122 = .ok (.iload_n 1, 1) := by decide +kernel
theorem f_164_123 : decode (mB 164) 123 = .ok (.aaload, 1) := by decide +kernel
theorem f_164_124 : decode (mB 164) 124 = .ok (.getfield 329, 3) := by decide +kernel
theorem f_164_127 : decode (mB 164) 127 = .ok (.iload_n 2, 1) := by decide +kernel
theorem f_164_128 : decode (mB 164) 128 = .ok (.aload_n 0, 1) := by decide +kernel
theorem f_164_129 : decode (mB 164) 129 = .ok (.getfield 53, 3) := by decide +kernel
theorem f_164_132 : decode (mB 164) 132 = .ok (.iload_n 3, 1) := by decide +kernel
theorem f_164_133 : decode (mB 164) 133 = .ok (.aaload, 1) := by decide +kernel
theorem f_164_134 : decode (mB 164) 134 = .ok (.getfield 329, 3) := by decide +kernel
theorem f_164_137 : decode (mB 164) 137 = .ok (.iload 4, 2) := by decide +kernel
theorem f_164_139 : decode (mB 164) 139 = .ok (.iload 5, 2) := by decide +kernel
theorem f_164_141 : decode (mB 164) 141 = .ok (.invokestatic 369, 3) := by decide +kernel
theorem f_164_144 : decode (mB 164) 144 = .ok (.iload 5, 2) := by decide +kernel
theorem f_164_146 : decode (mB 164) 146 = .ok (.ireturn, 1) := by decide +kernel
theorem f_165_0 : decode (mB 165) 0 = .ok (.iload_n 1, 1) := by decide +kernel
theorem f_165_1 : decode (mB 165) 1 = .ok (.ifCond .lt 29, 3) := by decide +kernel
theorem f_165_4 : decode (mB 165) 4 = .ok (.iload_n 2, 1) := by decide +kernel
theorem f_165_5 : decode (mB 165) 5 = .ok (.ifCond .lt 25, 3) := by decide +kernel
theorem f_165_8 : decode (mB 165) 8 = .ok (.iload_n 2, 1) := by decide +kernel
theorem f_165_9 : decode (mB 165) 9 = .ok (.aload_n 0, 1) := by decide +kernel
theorem f_165_10 : decode (mB 165) 10 = .ok (.getfield 17, 3) := by decide +kernel
theorem f_165_13 : decode (mB 165) 13 = .ok (.if_icmp .gt 17, 3) := by decide +kernel
theorem f_165_16 : decode (mB 165) 16 = .ok (.iload_n 1, 1) := by decide +kernel
theorem f_165_17 : decode (mB 165) 17 = .ok (.aload_n 0, 1) := by decide +kernel
theorem f_165_18 : decode (mB 165) 18 = .ok (.getfield 17, 3) := by decide +kernel
theorem f_165_21 : decode (mB 165) 21 = .ok (.iload_n 2, 1) := by decide +kernel
theorem f_165_22 : decode (mB 165) 22 = .ok (.isub, 1) := by decide +kernel
theorem f_165_23 : decode (mB 165) 23 = .ok (.if_icmp .gt 7, 3) := by decide +kernel
theorem f_165_26 : decode (mB 165) 26 = .ok (.iconst 1, 1) := by decide +kernel
theorem f_165_27 : decode (mB 165) 27 = .ok (.goto 4, 3) := by decide +kernel
theorem f_165_30 : decode (mB 165) 30 = .ok (.iconst 0, 1) := by decide +kernel
theorem f_165_31 : decode (mB 165) 31 = .ok (.ireturn, 1) := by decide +kernel
theorem f_166_0 : decode (mB 166) 0 = .ok (.aload_n 0, 1) := by decide +kernel
theorem f_166_1 : decode (mB 166) 1 = .ok (.getfield 16, 3) := by decide +kernel
theorem f_166_4 : decode (mB 166) 4 = .ok (.aload_n 0, 1) := by decide +kernel
theorem f_166_5 : decode (mB 166) 5 = .ok (.getfield 10, 3) := by decide +kernel
theorem f_166_8 : decode (mB 166) 8 = .ok (.invokevirtual 375, 3) := by decide +kernel
theorem f_166_11 : decode (mB 166) 11 = .ok (.aload_n 0, 1) := by decide +kernel
theorem f_166_12 : decode (mB 166) 12 = .ok (.iconst 1, 1) := by decide +kernel
theorem f_166_13 : decode (mB 166) 13 = .ok (.putfield 57, 3) := by decide +kernel
theorem f_166_16 : decode (mB 166) 16 = .ok (.aload_n 0, 1) := by decide +kernel
theorem f_166_17 : decode (mB 166) 17 = .ok (.getfield 10, 3) := by decide +kernel
theorem f_166_20 : decode (mB 166) 20 = .ok (.getfield 66, 3) := by decide +kernel
theorem f_166_23 : decode (mB 166) 23 = .ok (.ireturn, 1) := by decide +kernel
theorem f_167_0 : decode (mB 167) 0 = .ok (.aload_n 0, 1) := by decide +kernel
theorem f_167_1 : decode (mB 167) 1 = .ok (.aload_n 1, 1) := by decide +kernel
theorem f_167_2 : decode (mB 167) 2 = .ok (.getfield 48, 3) := by decide +kernel
theorem f_167_5 : decode (mB 167) 5 = .ok (.putfield 48, 3) := by decide +kernel
theorem f_167_8 : decode (mB 167) 8 = .ok (.aload_n 0, 1) := by decide +kernel
theorem f_167_9 : decode (mB 167) 9 = .ok (.aload_n 1, 1) := by decide +kernel
theorem f_167_10 : decode (mB 167) 10 = .ok (.getfield 52, 3) := by decide +kernel
theorem f_167_13 : decode (mB 167) 13 = .ok (.putfield 52, 3) := by decide +kernel
theorem f_167_16 : decode (mB 167) 16 = .ok (.aload_n 0, 1) := by decide +kernel
theorem f_167_17 : decode (mB 167) 17 = .ok (.aload_n 1, 1) := by decide +kernel
theorem f_167_18 : decode (mB 167) 18 = .ok (.getfield 55, 3) := by decide +kernel
theorem f_167_21 : decode (mB 167) 21 = .ok (.putfield 55, 3) := by decide +kernel
theorem f_167_24 : decode (mB 167) 24 = .ok (.aload_n 0, 1) := by decide +kernel
theorem f_167_25 : decode (mB 167) 25 = .ok (.aload_n 1, 1) := by decide +kernel
theorem f_167_26 : decode (mB 167) 26 = .ok (.getfield 58, 3) := by decide +kernel
theorem f_167_29 : decode (mB 167) 29 = .ok (.putfield 58, 3) := by decide +kernel
theorem f_167_32 : decode (mB 167) 32 = .ok (.aload_n 0, 1) := by decide +kernel
theorem f_167_33 : decode (mB 167) 33 = .ok (.aload_n 1, 1) := by decide +kernel
theorem f_167_34 : decode (mB 167) 34 = .ok (.getfield 61, 3) := by decide +kernel
theorem f_167_37 : decode (mB 167) 37 = .ok (.putfield 61, 3) := by decide +kernel
theorem f_167_40 : decode (mB 167) 40 = .ok (.aload_n 0, 1) := by decide +kernel
theorem f_167_41 : decode (mB 167) 41 = .ok (.aload_n 1, 1) := by decide +kernel
theorem f_167_42 : decode (mB 167) 42 = .ok (.getfield 64, 3) := by decide +kernel
theorem f_167_45 : decode (mB 167) 45 = .ok (.putfield 64, 3) := by decide +kernel
theorem f_167_48 : decode (mB 167) 48 = .ok (.aload_n 0, 1) := by decide +kernel
theorem f_167_49 : decode (mB 167) 49 = .ok (.aload_n 1, 1) := by decide +kernel
theorem f_167_50 : decode (mB 167) 50 = .ok (.getfield 67, 3) := by decide +kernel
theorem f_167_53 : decode (mB 167) 53 = .ok (.putfield 67, 3) := by decide +kernel
theorem f_167_56 : decode (mB 167) 56 = .ok (.aload_n 1, 1) := by decide +kernel
theorem f_167_57 : decode (mB 167) 57 = .ok (.getfield 41, 3) := by decide +kernel
theorem f_167_60 : decode (mB 167) 60 = .ok (.iconst 0, 1) := by decide +kernel
theorem f_167_61 : decode (mB 167) 61 = .ok (.aload_n 0, 1) := by decide +kernel
theorem f_167_62 : decode (mB 167) 62 = .ok (.getfield 41, 3) := by decide +kernel
theorem f_167_65 : decode (mB 167) 65 = .ok (.iconst 0, 1) := by decide +kernel
theorem f_167_66 : decode (mB 167) 66 = .ok (.iconst 2, 1) := by decide +kernel
theorem f_167_67 : decode (mB 167) 67 = .ok (.invokestatic 74, 3) := by decide +kernel
theorem f_167_70 : decode (mB 167) 70 = .ok (.iconst 0, 1) := by decide +kernel
theorem f_167_71 : decode (mB 167) 71 = .ok (.istore_n 2, 1) := by decide +kernel
theorem f_167_72 : decode (mB 167) 72 = .ok (.iload_n 2, 1) := by decide +kernel
theorem f_167_73 : decode (mB 167) 73 = .ok (.aload_n 0, 1) := by decide +kernel
theorem f_167_74 : decode (mB 167) 74 = .ok (.getfield 48, 3) := by decide +kernel
theorem f_167_77 : decode (mB 167) 77 = .ok (.if_icmp .ge 24, 3) := by decide +kernel
theorem f_167_80 : decode (mB 167) 80 = .ok (.aload_n 0, 1) := by decide +kernel
theorem f_167_81 : decode (mB 167) 81 = .ok (.getfield 11, 3) := by decide +kernel
theorem f_167_84 : decode (mB 167) 84 = .ok (.iload_n 2, 1) := by decide +kernel
theorem f_167_85 : decode (mB 167) 85 = .ok (.aaload, 1) := by decide +kernel
theorem f_167_86 : decode (mB 167) 86 = .ok (.aload_n 1, 1) := by decide +kernel
theorem f_167_87 : decode (mB 167) 87 = .ok (.getfield 11, 3) := by decide +kernel
theorem f_167_90 : decode (mB 167) 90 = .ok (.iload_n 2, 1) := by decide +kernel
theorem f_167_91 : decode (mB 167) 91 = .ok (.aaload, 1) := by decide +kernel
theorem f_167_92 : decode (mB 167) 92 = .ok (.invokevirtual 80, 3) := by decide +kernel
theorem f_167_95 : decode (mB 167) 95 = .ok (.iinc 2 1, 3) := by decide +kernel
theorem f_167_98 : decode (mB 167) 98 = .ok (.goto (-26), 3) := by decide +kernel
theorem f_167_101 : decode (mB 167) 101 = .ok (.iconst 0, 1) := by decide +kernel
theorem f_167_102 : decode (mB 167) 102 = .ok (.istore_n 2, 1) := by decide +kernel
theorem f_167_103 : decode (mB 167) 103 = .ok (.iload_n 2, 1) := by decide +kernel
theorem f_167_104 : decode (mB 167) 104 = .ok (.aload_n 0, 1) := by decide +kernel
theorem f_167_105 : decode (mB 167) 105 = .ok (.getfield 52, 3) := by decide +kernel
theorem f_167_108 : decode (mB 167) 108 = .ok (.if_icmp .ge 24, 3) := by decide +kernel
theorem f_167_111 : decode (mB 167) 111 = .ok (.aload_n 0, 1) := by decide +kernel
theorem f_167_112 : decode (mB 167) 112 = .ok (.getfield 19, 3) := by decide +kernel
theorem f_167_115 : decode (mB 167) 115 = .ok (.iload_n 2, 1) := by decide +kernel
theorem f_167_116 : decode (mB 167) 116 = .ok (.aaload, 1) := by decide +kernel
theorem f_167_117 : decode (mB 167) 117 = .ok (.aload_n 1, 1) := by decide +kernel
theorem f_167_118 : decode (mB 167) 118 = .ok (.getfield 19, 3) := by decide +kernel
theorem f_167_121 : decode (mB 167) 121 = .ok (.iload_n 2, 1) := by decide +kernel
theorem f_167_122 : decode (mB 167) 122 = .ok (.aaload, 1) := by decide +kernel
theorem f_167_123 : decode (mB 167) 123 = .ok (.invokevirtual 84, 3) := by decide +kernel
theorem f_167_126 : decode (mB 167) 126 = .ok (.iinc 2 1, 3) := by decide +kernel
theorem f_167_129 : decode (mB 167) 129 = .ok (.goto (-26), 3) := by decide +kernel
theorem f_167_132 : decode (mB 167) 132 = .ok (.iconst 0, 1) := by decide +kernel
theorem f_167_133 : decode (mB 167) 133 = .ok (.istore_n 2, 1) := by decide +kernel
theorem f_167_134 : decode (mB 167) 134 = .ok (.iload_n 2, 1) := by decide +kernel
theorem f_167_135 : decode (mB 167) 135 = .ok (.aload_n 0, 1) := by decide +kernel
theorem f_167_136 : decode (mB 167) 136 = .ok (.getfield 55, 3) := by decide +kernel
theorem f_167_139 : decode (mB 167) 139 = .ok (.if_icmp .ge 24, 3) := by decide +kernel
theorem f_167_142 : decode (mB 167) 142 = .ok (.aload_n 0, 1) := by decide +kernel
theorem f_167_143 : decode (mB 167) 143 = .ok (.getfield 25, 3) := by decide +kernel
theorem f_167_146 : decode (mB 167) 146 = .ok (.iload_n 2, 1) := by decide +kernel
theorem f_167_147 : decode (mB 167) 147 = .ok (.aaload, 1) := by decide +kernel
theorem f_167_148 : decode (mB 167) 148 = .ok (.aload_n 1, 1) := by decide +kernel
theorem f_167_149 : decode (mB 167) 149 = .ok (.getfield 25, 3) := by decide +kernel
theorem f_167_152 : decode (mB 167) 152 = .ok (.iload_n 2, 1) := by decide +kernel
theorem f_167_153 : decode (mB 167) 153 = .ok (.aaload, 1) := by decide +kernel
theorem f_167_154 : decode (mB 167) 154 = .ok (.invokevirtual 87, 3) := by decide +kernel
theorem f_167_157 : decode (mB 167) 157 = .ok (.iinc 2 1, 3) := by decide +kernel
theorem f_167_160 : decode (mB 167) 160 = .ok (.goto (-26), 3) := by decide +kernel
theorem f_167_163 : decode (mB 167) 163 = .ok (.iconst 0, 1) := by decide +kernel
theorem f_167_164 : decode (mB 167) 164 = .ok (.istore_n 2, 1) := by decide +kernel
theorem f_167_165 : decode (mB 167) 165 = .ok (.iload_n 2, 1) := by decide +kernel
theorem f_167_166 : decode (mB 167) 166 = .ok (.aload_n 0, 1) := by decide +kernel
theorem f_167_167 : decode (mB 167) 167 = .ok (.getfield 58, 3) := by decide +kernel
theorem f_167_170 : decode (mB 167) 170 = .ok (.if_icmp .ge 45, 3) := by decide +kernel
theorem f_167_173 : decode (mB 167) 173 = .ok (.aload_n 0, 1) := by decide +kernel
theorem f_167_174 : decode (mB 167) 174 = .ok (.getfield 31, 3) := by decide +kernel
theorem f_167_177 : decode (mB 167) 177 = .ok (.iload_n 2, 1) := by decide +kernel
theorem f_167_178 : decode (mB 167) 178 = .ok (.aaload, 1) := by decide +kernel
theorem f_167_179 : decode (mB 167) 179 = .ok (.aload_n 1, 1) := by decide +kernel
theorem f_167_180 : decode (mB 167) 180 = .ok (.getfield 31, 3) := by decide +kernel
theorem f_167_183 : decode (mB 167) 183 = .ok (.iload_n 2, 1) := by decide +kernel
theorem f_167_184 : decode (mB 167) 184 = .ok (.aaload, 1) := by decide +kernel
theorem f_167_185 : decode (mB 167) 185 = .ok (.getfield 90, 3) := by decide +kernel
theorem f_167_188 : decode (mB 167) 188 = .ok (.aload_n 1, 1) := by decide +kernel
theorem f_167_189 : decode (mB 167) 189 = .ok (.getfield 31, 3) := by decide +kernel
theorem f_167_192 : decode (mB 167) 192 = .ok (.iload_n 2, 1) := by decide +kernel
theorem f_167_193 : decode (mB 167) 193 = .ok (.aaload, 1) := by decide +kernel
theorem f_167_194 : decode (mB 167) 194 = .ok (.getfield 94, 3) := by decide +kernel
theorem f_167_197 : decode (mB 167) 197 = .ok (.aload_n 1, 1) := by decide +kernel
theorem f_167_198 : decode (mB 167) 198 = .ok (.getfield 31, 3) := by decide +kernel
theorem f_167_201 : decode (mB 167) 201 = .ok (.iload_n 2, 1) := by decide +kernel
theorem f_167_202 : decode (mB 167) 202 = .ok (.aaload, 1) := by decide +kernel
theorem f_167_203 : decode (mB 167) 203 = .ok (.getfield 97, 3) := by decide +kernel
theorem f_167_206 : decode (mB 167) 206 = .ok (.invokevirtual 100, 3) := by decide +kernel
theorem f_167_209 : decode (mB 167) 209 = .ok (.iinc 2 1, 3) := by decide +kernel
theorem f_167_212 : decode (mB 167) 212 = .ok (.goto (-47), 3) := by decide +kernel
theorem f_167_215 : decode (mB 167) 215 = .ok (.iconst 0, 1) := by decide +kernel
theorem f_167_216 : decode (mB 167) 216 = .ok (.istore_n 2, 1) := by decide +kernel
theorem f_167_217 : decode (mB 167) 217 = .ok (.iload_n 2, 1) := by decide +kernel
theorem f_167_218 : decode (mB 167) 218 = .ok (.iconst 5, 1) := by decide +kernel
theorem f_167_219 : decode (mB 167) 219 = .ok (.if_icmp .ge 21, 3) := by decide +kernel
theorem f_167_222 : decode (mB 167) 222 = .ok (.aload_n 0, 1) := by decide +kernel
theorem f_167_223 : decode (mB 167) 223 = .ok (.getfield 37, 3) := by decide +kernel
theorem f_167_226 : decode (mB 167) 226 = .ok (.iload_n 2, 1) := by decide +kernel
theorem f_167_227 : decode (mB 167) 227 = .ok (.aload_n 1, 1) := by decide +kernel
theorem f_167_228 : decode (mB 167) 228 = .ok (.getfield 37, 3) := by decide +kernel
theorem f_167_231 : decode (mB 167) 231 = .ok (.iload_n 2, 1) := by decide +kernel
theorem f_167_232 : decode (mB 167) 232 = .ok (.aaload, 1) := by decide +kernel
theorem f_167_233 : decode (mB 167) 233 = .ok (.aastore, 1) := by decide +kernel
theorem f_167_234 : decode (mB 167) 234 = .ok (.iinc 2 1, 3) := by decide +kernel
theorem f_167_237 : decode (mB 167) 237 = .ok (.goto (-20), 3) := by decide +kernel
theorem f_167_240 : decode (mB 167) 240 = .ok (.return_, 1) := by decide +kernel
theorem f_168_0 : decode (mB 168) 0 = .ok (.aload_n 0, 1) := by decide +kernel
theorem f_168_1 : decode (mB 168) 1 = .ok (.aload_n 1, 1) := by decide +kernel
theorem f_168_2 : decode (mB 168) 2 = .ok (.getfield 7, 3) := by decide +kernel
theorem f_168_5 : decode (mB 168) 5 = .ok (.aload_n 1, 1) := by decide +kernel
theorem f_168_6 : decode (mB 168) 6 = .ok (.getfield 13, 3) := by decide +kernel
theorem f_168_9 : decode (mB 168) 9 = .ok (.aload_n 1, 1) := by decide +kernel
theorem f_168_10 : decode (mB 168) 10 = .ok (.getfield 16, 3) := by decide +kernel
theorem f_168_13 : decode (mB 168) 13 = .ok (.aload_n 1, 1) := by decide +kernel
theorem f_168_14 : decode (mB 168) 14 = .ok (.getfield 19, 3) := by decide +kernel
theorem f_168_17 : decode (mB 168) 17 = .ok (.invokevirtual 41, 3) := by decide +kernel
theorem f_168_20 : decode (mB 168) 20 = .ok (.aload_n 0, 1) := by decide +kernel
theorem f_168_21 : decode (mB 168) 21 = .ok (.aload_n 1, 1) := by decide +kernel
theorem f_168_22 : decode (mB 168) 22 = .ok (.getfield 22, 3) := by decide +kernel
theorem f_168_25 : decode (mB 168) 25 = .ok (.putfield 22, 3) := by decide +kernel
theorem f_168_28 : decode (mB 168) 28 = .ok (.aload_n 0, 1) := by decide +kernel
theorem f_168_29 : decode (mB 168) 29 = .ok (.aload_n 1, 1) := by decide +kernel
theorem f_168_30 : decode (mB 168) 30 = .ok (.getfield 25, 3) := by decide +kernel
theorem f_168_33 : decode (mB 168) 33 = .ok (.putfield 25, 3) := by decide +kernel
theorem f_168_36 : decode (mB 168) 36 = .ok (.aload_n 0, 1) := by decide +kernel
theorem f_168_37 : decode (mB 168) 37 = .ok (.aload_n 1, 1) := by decide +kernel
theorem f_168_38 : decode (mB 168) 38 = .ok (.getfield 28, 3) := by decide +kernel
theorem f_168_41 : decode (mB 168) 41 = .ok (.putfield 28, 3) := by decide +kernel
theorem f_168_44 : decode (mB 168) 44 = .ok (.aload_n 0, 1) := by decide +kernel
theorem f_168_45 : decode (mB 168) 45 = .ok (.aload_n 1, 1) := by decide +kernel
theorem f_168_46 : decode (mB 168) 46 = .ok (.getfield 31, 3) := by decide +kernel
theorem f_168_49 : decode (mB 168) 49 = .ok (.putfield 31, 3) := by decide +kernel
theorem f_168_52 : decode (mB 168) 52 = .ok (.aload_n 0, 1) := by decide +kernel
theorem f_168_53 : decode (mB 168) 53 = .ok (.aload_n 1, 1) := by decide +kernel
theorem f_168_54 : decode (mB 168) 54 = .ok (.getfield 34, 3) := by decide +kernel
theorem f_168_57 : decode (mB 168) 57 = .ok (.putfield 34, 3) := by decide +kernel
theorem f_168_60 : decode (mB 168) 60 = .ok (.aload_n 0, 1) := by decide +kernel
theorem f_168_61 : decode (mB 168) 61 = .ok (.aload_n 1, 1) := by decide +kernel
theorem f_168_62 : decode (mB 168) 62 = .ok (.getfield 38, 3) := by decide +kernel
theorem f_168_65 : decode (mB 168) 65 = .ok (.putfield 38, 3) := by decide +kernel
theorem f_168_68 : decode (mB 168) 68 = .ok (.return_, 1) := by decide +kernel
theorem f_169_0 : decode (mB 169) 0 = .ok (.aload_n 0, 1) := by decide +kernel
theorem f_169_1 : decode (mB 169) 1 = .ok (.aload_n 1, 1) := by decide +kernel
theorem f_169_2 : decode (mB 169) 2 = .ok (.getfield 7, 3) := by decide +kernel
theorem f_169_5 : decode (mB 169) 5 = .ok (.aload_n 1, 1) := by decide +kernel
theorem f_169_6 : decode (mB 169) 6 = .ok (.getfield 13, 3) := by decide +kernel
theorem f_169_9 : decode (mB 169) 9 = .ok (.aload_n 1, 1) := by decide +kernel
theorem f_169_10 : decode (mB 169) 10 = .ok (.getfield 19, 3) := by decide +kernel
theorem f_169_13 : decode (mB 169) 13 = .ok (.invokevirtual 23, 3) := by decide +kernel
theorem f_169_16 : decode (mB 169) 16 = .ok (.aload_n 0, 1) := by decide +kernel
theorem f_169_17 : decode (mB 169) 17 = .ok (.aload_n 1, 1) := by decide +kernel
theorem f_169_18 : decode (mB 169) 18 = .ok (.getfield 16, 3) := by decide +kernel
theorem f_169_21 : decode (mB 169) 21 = .ok (.putfield 16, 3) := by decide +kernel
theorem f_169_24 : decode (mB 169) 24 = .ok (.return_, 1) := by decide +kernel
theorem f_170_0 : decode (mB 170) 0 = .ok (.aload_n 0, 1) := by decide +kernel
theorem f_170_1 : decode (mB 170) 1 = .ok (.aload_n 1, 1) := by decide +kernel
theorem f_170_2 : decode (mB 170) 2 = .ok (.getfield 9, 3) := by decide +kernel
theorem f_170_5 : decode (mB 170) 5 = .ok (.aload_n 1, 1) := by decide +kernel
theorem f_170_6 : decode (mB 170) 6 = .ok (.getfield 15, 3) := by decide +kernel
theorem f_170_9 : decode (mB 170) 9 = .ok (.aload_n 1, 1) := by decide +kernel
theorem f_170_10 : decode (mB 170) 10 = .ok (.getfield 18, 3) := by decide +kernel
theorem f_170_13 : decode (mB 170) 13 = .ok (.aload_n 1, 1) := by decide +kernel
theorem f_170_14 : decode (mB 170) 14 = .ok (.getfield 21, 3) := by decide +kernel
theorem f_170_17 : decode (mB 170) 17 = .ok (.aload_n 1, 1) := by decide +kernel
theorem f_170_18 : decode (mB 170) 18 = .ok (.getfield 27, 3) := by decide +kernel
theorem f_170_21 : decode (mB 170) 21 = .ok (.aload_n 1, 1) := by decide +kernel
theorem f_170_22 : decode (mB 170) 22 = .ok (.getfield 30, 3) := by decide +kernel
theorem f_170_25 : decode (mB 170) 25 = .ok (.invokevirtual 42, 3) := by decide +kernel
theorem f_170_28 : decode (mB 170) 28 = .ok (.aload_n 0, 1) := by decide +kernel
theorem f_170_29 : decode (mB 170) 29 = .ok (.aload_n 1, 1) := by decide +kernel
theorem f_170_30 : decode (mB 170) 30 = .ok (.getfield 24, 3) := by decide +kernel
theorem f_170_33 : decode (mB 170) 33 = .ok (.putfield 24, 3) := by decide +kernel
theorem f_170_36 : decode (mB 170) 36 = .ok (.aload_n 0, 1) := by decide +kernel
theorem f_170_37 : decode (mB 170) 37 = .ok (.aload_n 1, 1) := by decide +kernel
theorem f_170_38 : decode (mB 170) 38 = .ok (.getfield 33, 3) := by decide +kernel
theorem f_170_41 : decode (mB 170) 41 = .ok (.putfield 33, 3) := by decide +kernel
theorem f_170_44 : decode (mB 170) 44 = .ok (.aload_n 0, 1) := by decide +kernel
theorem f_170_45 : decode (mB 170) 45 = .ok (.aload_n 1, 1) := by decide +kernel
theorem f_170_46 : decode (mB 170) 46 = .ok (.getfield 36, 3) := by decide +kernel
theorem f_170_49 : decode (mB 170) 49 = .ok (.putfield 36, 3) := by decide +kernel
theorem f_170_52 : decode (mB 170) 52 = .ok (.aload_n 0, 1) := by decide +kernel
theorem f_170_53 : decode (mB 170) 53 = .ok (.aload_n 1, 1) := by decide +kernel
theorem f_170_54 : decode (mB 170) 54 = .ok (.getfield 39, 3) := by decide +kernel
theorem f_170_57 : decode (mB 170) 57 = .ok (.putfield 39, 3) := by decide +kernel
theorem f_170_60 : decode (mB 170) 60 = .ok (.return_, 1) := by decide +kernel
theorem f_171_0 : decode (mB 171) 0 = .ok (.aload_n 0, 1) := by decide +kernel
theorem f_171_1 : decode (mB 171) 1 = .ok (.getfield 57, 3) := by decide +kernel
theorem f_171_4 : decode (mB 171) 4 = .ok (.ifCond .ne 10, 3) := by decide +kernel
theorem f_171_7 : decode (mB 171) 7 = .ok (.aload_n 0, 1) := by decide +kernel
theorem f_171_8 : decode (mB 171) 8 = .ok (.ldc 182, 2) := by decide +kernel
theorem f_171_10 : decode (mB 171) 10 = .ok (.invokevirtual 84, 3) := by decide +kernel
theorem f_171_13 : decode (mB 171) 13 = .ok (.ireturn, 1) := by decide +kernel
theorem f_171_14 : decode (mB 171) 14 = .ok (.aload_n 0, 1) := by decide +kernel
theorem f_171_15 : decode (mB 171) 15 = .ok (.getfield 10, 3) := by decide +kernel
theorem f_171_18 : decode (mB 171) 18 = .ok (.aload_n 0, 1) := by decide +kernel
theorem f_171_19 : decode (mB 171) 19 = .ok (.getfield 16, 3) := by decide +kernel
theorem f_171_22 : decode (mB 171) 22 = .ok (.invokevirtual 375, 3) := by decide +kernel
theorem f_171_25 : decode (mB 171) 25 = .ok (.aload_n 0, 1) := by decide +kernel
theorem f_171_26 : decode (mB 171) 26 = .ok (.getfield 10, 3) := by decide +kernel
theorem f_171_29 : decode (mB 171) 29 = .ok (.getfield 66, 3) := by decide +kernel
theorem f_171_32 : decode (mB 171) 32 = .ok (.ireturn, 1) := by decide +kernel
theorem f_172_0 : decode (mB 172) 0 = .ok (.iload_n 1, 1) := by decide +kernel
theorem f_172_1 : decode (mB 172) 1 = .ok (.tableswitch 120 0 8 #[51, 59, 67, 75, 83, 91, 99, 107, 115], 51) := by decide +kernel
theorem f_172_52 : decode (mB 172) 52 = .ok (.aload_n 0, 1) := by decide +kernel
theorem f_172_53 : decode (mB 172) 53 = .ok (.getfield 10, 3) := by decide +kernel
theorem f_172_56 : decode (mB 172) 56 = .ok (.invokevirtual 378, 3) := by decide +kernel
theorem f_172_59 : decode (mB 172) 59 = .ok (.ireturn, 1) := by decide +kernel
theorem f_172_60 : decode (mB 172) 60 = .ok (.aload_n 0, 1) := by decide +kernel
theorem f_172_61 : decode (mB 172) 61 = .ok (.getfield 10, 3) := by decide +kernel
theorem f_172_64 : decode (mB 172) 64 = .ok (.getfield 147, 3) := by decide +kernel
theorem f_172_67 : decode (mB 172) 67 = .ok (.ireturn, 1) := by decide +kernel
theorem f_172_68 : decode (mB 172) 68 = .ok (.aload_n 0, 1) := by decide +kernel
theorem f_172_69 : decode (mB 172) 69 = .ok (.getfield 10, 3) := by decide +kernel
theorem f_172_72 : decode (mB 172) 72 = .ok (.getfield 188, 3) := by decide +kernel
theorem f_172_75 : decode (mB 172) 75 = .ok (.ireturn, 1) := by decide +kernel
theorem f_172_76 : decode (mB 172) 76 = .ok (.aload_n 0, 1) := by decide +kernel
theorem f_172_77 : decode (mB 172) 77 = .ok (.getfield 10, 3) := by decide +kernel
theorem f_172_80 : decode (mB 172) 80 = .ok (.invokevirtual 381, 3) := by decide +kernel
theorem f_172_83 : decode (mB 172) 83 = .ok (.ireturn, 1) := by decide +kernel
theorem f_172_84 : decode (mB 172) 84 = .ok (.aload_n 0, 1) := by decide +kernel
theorem f_172_85 : decode (mB 172) 85 = .ok (.getfield 10, 3) := by decide +kernel
theorem f_172_88 : decode (mB 172) 88 = .ok (.getfield 66, 3) := by decide +kernel
theorem f_172_91 : decode (mB 172) 91 = .ok (.ireturn, 1) := by decide +kernel
theorem f_172_92 : decode (mB 172) 92 = .ok (.aload_n 0, 1) := by decide +kernel
theorem f_172_93 : decode (mB 172) 93 = .ok (.getfield 10, 3) := by decide +kernel
theorem f_172_96 : decode (mB 172) 96 = .ok (.invokevirtual 384, 3) := by decide +kernel
theorem f_172_99 : decode (mB 172) 99 = .ok (.ireturn, 1) := by decide +kernel
theorem f_172_100 : decode (mB 172) 100 = .ok (.aload_n 0, 1) := by decide +kernel
theorem f_172_101 : decode (mB 172) 101 = .ok (.getfield 10, 3) := by decide +kernel
theorem f_172_104 : decode (mB 172) 104 = .ok (.getfield 387, 3) := by decide +kernel
theorem f_172_107 : decode (mB 172) 107 = .ok (.ireturn, 1) := by decide +kernel
theorem f_172_108 : decode (mB 172) 108 = .ok (.aload_n 0, 1) := by decide +kernel
theorem f_172_109 : decode (mB 172) 109 = .ok (.getfield 10, 3) := by decide +kernel
theorem f_172_112 : decode (mB 172) 112 = .ok (.getfield 123, 3) := by decide +kernel
theorem f_172_115 : decode (mB 172) 115 = .ok (.ireturn, 1) := by decide +kernel
theorem f_172_116 : decode (mB 172) 116 = .ok (.aload_n 0, 1) := by decide +kernel
theorem f_172_117 : decode (mB 172) 117 = .ok (.getfield 61, 3) := by decide +kernel
theorem f_172_120 : decode (mB 172) 120 = .ok (.ireturn, 1) := by decide +kernel
theorem f_172_121 : decode (mB 172) 121 = .ok (.aload_n 0, 1) := by decide +kernel
theorem f_172_122 : decode (mB 172) 122 = .ok (.ldc 83, 2) := by decide +kernel
theorem f_172_124 : decode (mB 172) 124 = .ok (.invokevirtual 84, 3) := by decide +kernel
theorem f_172_127 : decode (mB 172) 127 = .ok (.ireturn, 1) := by decide +kernel
theorem f_173_0 : decode (mB 173) 0 = .ok (.iconst 0, 1) := by decide +kernel
theorem f_173_1 : decode (mB 173) 1 = .ok (.istore_n 1, 1) := by decide +kernel
theorem f_173_2 : decode (mB 173) 2 = .ok (.iconst 0, 1) := by decide +kernel
theorem f_173_3 : decode (mB 173) 3 = .ok (.istore_n 2, 1) := by decide +kernel
theorem f_173_4 : decode (mB 173) 4 = .ok (.iload_n 2, 1) := by decide +kernel
theorem f_173_5 : decode (mB 173) 5 = .ok (.aload_n 0, 1) := by decide +kernel
theorem f_173_6 : decode (mB 173) 6 = .ok (.getfield 48, 3) := by decide +kernel
theorem f_173_9 : decode (mB 173) 9 = .ok (.if_icmp .ge 32, 3) := by decide +kernel
theorem f_173_12 : decode (mB 173) 12 = .ok (.iload_n 1, 1) := by decide +kernel
theorem f_173_13 : decode (mB 173) 13 = .ok (.aload_n 0, 1) := by decide +kernel
theorem f_173_14 : decode (mB 173) 14 = .ok (.getfield 11, 3) := by decide +kernel
theorem f_173_17 : decode (mB 173) 17 = .ok (.iload_n 2, 1) := by decide +kernel
theorem f_173_18 : decode (mB 173) 18 = .ok (.aaload, 1) := by decide +kernel
theorem f_173_19 : decode (mB 173) 19 = .ok (.invokevirtual 116, 3) := by decide +kernel
theorem f_173_22 : decode (mB 173) 22 = .ok (.ifCond .ne 7, 3) := by decide +kernel
theorem f_173_25 : decode (mB 173) 25 = .ok (.iconst 1, 1) := by decide +kernel
theorem f_173_26 : decode (mB 173) 26 = .ok (.goto 4, 3) := by decide +kernel
theorem f_173_29 : decode (mB 173) 29 = .ok (.iconst 0, 1) := by decide +kernel
theorem f_173_30 : decode (mB 173) 30 = .ok (.invokestatic 127, 3) := by decide +kernel
theorem f_173_33 : decode (mB 173) 33 = .ok (.iadd, 1) := by decide +kernel
theorem f_173_34 : decode (mB 173) 34 = .ok (.istore_n 1, 1) := by decide +kernel
theorem f_173_35 : decode (mB 173) 35 = .ok (.iinc 2 1, 3) := by decide +kernel
theorem f_173_38 : decode (mB 173) 38 = .ok (.goto (-34), 3) := by decide +kernel
theorem f_173_41 : decode (mB 173) 41 = .ok (.iload_n 1, 1) := by decide +kernel
theorem f_173_42 : decode (mB 173) 42 = .ok (.ireturn, 1) := by decide +kernel
theorem f_174_0 : decode (mB 174) 0 = .ok (.iconst 0, 1) := by decide +kernel
theorem f_174_1 : decode (mB 174) 1 = .ok (.istore_n 1, 1) := by decide +kernel
theorem f_174_2 : decode (mB 174) 2 = .ok (.iconst 0, 1) := by decide +kernel
theorem f_174_3 : decode (mB 174) 3 = .ok (.istore_n 2, 1) := by decide +kernel
theorem f_174_4 : decode (mB 174) 4 = .ok (.iload_n 2, 1) := by decide +kernel
theorem f_174_5 : decode (mB 174) 5 = .ok (.aload_n 0, 1) := by decide +kernel
theorem f_174_6 : decode (mB 174) 6 = .ok (.getfield 55, 3) := by decide +kernel
theorem f_174_9 : decode (mB 174) 9 = .ok (.if_icmp .ge 32, 3) := by decide +kernel
theorem f_174_12 : decode (mB 174) 12 = .ok (.iload_n 1, 1) := by decide +kernel
theorem f_174_13 : decode (mB 174) 13 = .ok (.aload_n 0, 1) := by decide +kernel
theorem f_174_14 : decode (mB 174) 14 = .ok (.getfield 25, 3) := by decide +kernel
theorem f_174_17 : decode (mB 174) 17 = .ok (.iload_n 2, 1) := by decide +kernel
theorem f_174_18 : decode (mB 174) 18 = .ok (.aaload, 1) := by decide +kernel
theorem f_174_19 : decode (mB 174) 19 = .ok (.getfield 167, 3) := by decide +kernel
theorem f_174_22 : decode (mB 174) 22 = .ok (.ifCond .ne 7, 3) := by decide +kernel
theorem f_174_25 : decode (mB 174) 25 = .ok (.iconst 1, 1) := by decide +kernel
theorem f_174_26 : decode (mB 174) 26 = .ok (.goto 4, 3) := by decide +kernel
theorem f_174_29 : decode (mB 174) 29 = .ok (.iconst 0, 1) := by decide +kernel
theorem f_174_30 : decode (mB 174) 30 = .ok (.invokestatic 127, 3) := by decide +kernel
theorem f_174_33 : decode (mB 174) 33 = .ok (.iadd, 1) := by decide +kernel
theorem f_174_34 : decode (mB 174) 34 = .ok (.istore_n 1, 1) := by decide +kernel
theorem f_174_35 : decode (mB 174) 35 = .ok (.iinc 2 1, 3) := by decide +kernel
theorem f_174_38 : decode (mB 174) 38 = .ok (.goto (-34), 3) := by decide +kernel
theorem f_174_41 : decode (mB 174) 41 = .ok (.iload_n 1, 1) := by decide +kernel
theorem f_174_42 : decode (mB 174) 42 = .ok (.ireturn, 1) := by decide +kernel
theorem f_175_0 : decode (mB 175) 0 = .ok (.iconst 0, 1) := by decide +kernel
theorem f_175_1 : decode (mB 175) 1 = .ok (.istore_n 1, 1) := by decide +kernel
theorem f_175_2 : decode (mB 175) 2 = .ok (.iconst 0, 1) := by decide +kernel
theorem f_175_3 : decode (mB 175) 3 = .ok (.istore_n 2, 1) := by decide +kernel
theorem f_175_4 : decode (mB 175) 4 = .ok (.iload_n 2, 1) := by decide +kernel
theorem f_175_5 : decode (mB 175) 5 = .ok (.aload_n 0, 1) := by decide +kernel
theorem f_175_6 : decode (mB 175) 6 = .ok (.getfield 48, 3) := by decide +kernel
theorem f_175_9 : decode (mB 175) 9 = .ok (.if_icmp .ge 21, 3) := by decide +kernel
theorem f_175_12 : decode (mB 175) 12 = .ok (.iload_n 1, 1) := by decide +kernel
theorem f_175_13 : decode (mB 175) 13 = .ok (.aload_n 0, 1) := by decide +kernel
theorem f_175_14 : decode (mB 175) 14 = .ok (.getfield 11, 3) := by decide +kernel
theorem f_175_17 : decode (mB 175) 17 = .ok (.iload_n 2, 1) := by decide +kernel
theorem f_175_18 : decode (mB 175) 18 = .ok (.aaload, 1) := by decide +kernel
theorem f_175_19 : decode (mB 175) 19 = .ok (.getfield 131, 3) := by decide +kernel
theorem f_175_22 : decode (mB 175) 22 = .ok (.iadd, 1) := by decide +kernel
theorem f_175_23 : decode (mB 175) 23 = .ok (.istore_n 1, 1) := by decide +kernel
theorem f_175_24 : decode (mB 175) 24 = .ok (.iinc 2 1, 3) := by decide +kernel
theorem f_175_27 : decode (mB 175) 27 = .ok (.goto (-23), 3) := by decide +kernel
theorem f_175_30 : decode (mB 175) 30 = .ok (.iload_n 1, 1) := by decide +kernel
theorem f_175_31 : decode (mB 175) 31 = .ok (.ireturn, 1) := by decide +kernel
theorem f_176_0 : decode (mB 176) 0 = .ok (.aload_n 0, 1) := by decide +kernel
theorem f_176_1 : decode (mB 176) 1 = .ok (.invokespecial 1, 3) := by decide +kernel
theorem f_176_4 : decode (mB 176) 4 = .ok (.aload_n 0, 1) := by decide +kernel
theorem f_176_5 : decode (mB 176) 5 = .ok (.sipush 10759, 3) := by decide +kernel
theorem f_176_8 : decode (mB 176) 8 = .ok (.newarray .int, 2) := by decide +kernel
theorem f_176_10 : decode (mB 176) 10 = .ok (.putfield 7, 3) := by decide +kernel
theorem f_176_13 : decode (mB 176) 13 = .ok (.aload_n 0, 1) := by decide +kernel
theorem f_176_14 : decode (mB 176) 14 = .ok (.sipush 10759, 3) := by decide +kernel
theorem f_176_17 : decode (mB 176) 17 = .ok (.newarray .int, 2) := by decide +kernel
theorem f_176_19 : decode (mB 176) 19 = .ok (.putfield 13, 3) := by decide +kernel
theorem f_176_22 : decode (mB 176) 22 = .ok (.aload_n 0, 1) := by decide +kernel
theorem f_176_23 : decode (mB 176) 23 = .ok (.bipush 84, 2) := by decide +kernel
theorem f_176_25 : decode (mB 176) 25 = .ok (.newarray .boolean, 2) := by decide +kernel
theorem f_176_27 : decode (mB 176) 27 = .ok (.putfield 16, 3) := by decide +kernel
theorem f_176_30 : decode (mB 176) 30 = .ok (.aload_n 0, 1) := by decide +kernel
theorem f_176_31 : decode (mB 176) 31 = .ok (.bipush 84, 2) := by decide +kernel
theorem f_176_33 : decode (mB 176) 33 = .ok (.newarray .int, 2) := by decide +kernel
theorem f_176_35 : decode (mB 176) 35 = .ok (.putfield 20, 3) := by decide +kernel
theorem f_176_38 : decode (mB 176) 38 = .ok (.aload_n 0, 1) := by decide +kernel
theorem f_176_39 : decode (mB 176) 39 = .ok (.bipush 84, 2) := by decide +kernel
theorem f_176_41 : decode (mB 176) 41 = .ok (.newarray .int, 2) := by decide +kernel
theorem f_176_43 : decode (mB 176) 43 = .ok (.putfield 23, 3) := by decide +kernel
theorem f_176_46 : decode (mB 176) 46 = .ok (.aload_n 0, 1) := by decide +kernel
theorem f_176_47 : decode (mB 176) 47 = .ok (.sipush 200, 3) := by decide +kernel
theorem f_176_50 : decode (mB 176) 50 = .ok (.newarray .byte, 2) := by decide +kernel
theorem f_176_52 : decode (mB 176) 52 = .ok (.putfield 26, 3) := by decide +kernel
theorem f_176_55 : decode (mB 176) 55 = .ok (.aload_n 0, 1) := by decide +kernel
theorem f_176_56 : decode (mB 176) 56 = .ok (.bipush 69, 2) := by decide +kernel
theorem f_176_58 : decode (mB 176) 58 = .ok (.newarray .char, 2) := by decide +kernel
theorem f_176_60 : decode (mB 176) 60 = .ok (.dup, 1) := by decide +kernel
theorem f_176_61 : decode (mB 176) 61 = .ok (.iconst 0, 1) := by decide +kernel
theorem f_176_62 : decode (mB 176) 62 = .ok (.bipush 107, 2) := by decide +kernel
theorem f_176_64 : decode (mB 176) 64 = .ok (.castore, 1) := by decide +kernel
theorem f_176_65 : decode (mB 176) 65 = .ok (.dup, 1) := by decide +kernel
theorem f_176_66 : decode (mB 176) 66 = .ok (.iconst 1, 1) := by decide +kernel
theorem f_176_67 : decode (mB 176) 67 = .ok (.bipush 105, 2) := by decide +kernel
theorem f_176_69 : decode (mB 176) 69 = .ok (.castore, 1) := by decide +kernel
theorem f_176_70 : decode (mB 176) 70 = .ok (.dup, 1) := by decide +kernel
theorem f_176_71 : decode (mB 176) 71 = .ok (.iconst 2, 1) := by decide +kernel
theorem f_176_72 : decode (mB 176) 72 = .ok (.bipush 110, 2) := by decide +kernel
theorem f_176_74 : decode (mB 176) 74 = .ok (.castore, 1) := by decide +kernel
theorem f_176_75 : decode (mB 176) 75 = .ok (.dup, 1) := by decide +kernel
theorem f_176_76 : decode (mB 176) 76 = .ok (.iconst 3, 1) := by decide +kernel
theorem f_176_77 : decode (mB 176) 77 = .ok (.bipush 100, 2) := by decide +kernel
theorem f_176_79 : decode (mB 176) 79 = .ok (.castore, 1) := by decide +kernel
theorem f_176_80 : decode (mB 176) 80 = .ok (.dup, 1) := by decide +kernel
theorem f_176_81 : decode (mB 176) 81 = .ok (.iconst 4, 1) := by decide +kernel
theorem f_176_82 : decode (mB 176) 82 = .ok (.bipush 97, 2) := by decide +kernel
theorem f_176_84 : decode (mB 176) 84 = .ok (.castore, 1) := by decide +kernel
theorem f_176_85 : decode (mB 176) 85 = .ok (.dup, 1) := by decide +kernel
theorem f_176_86 : decode (mB 176) 86 = .ok (.iconst 5, 1) := by decide +kernel
theorem f_176_87 : decode (mB 176) 87 = .ok (.bipush 103, 2) := by decide +kernel
theorem f_176_89 : decode (mB 176) 89 = .ok (.castore, 1) := by decide +kernel
theorem f_176_90 : decode (mB 176) 90 = .ok (.dup, 1) := by decide +kernel
theorem f_176_91 : decode (mB 176) 91 = .ok (.bipush 6, 2) := by decide +kernel
theorem f_176_93 : decode (mB 176) 93 = .ok (.bipush 101, 2) := by decide +kernel
theorem f_176_95 : decode (mB 176) 95 = .ok (.castore, 1) := by decide +kernel
theorem f_176_96 : decode (mB 176) 96 = .ok (.dup, 1) := by decide +kernel
theorem f_176_97 : decode (mB 176) 97 = .ok (.bipush 7, 2) := by decide +kernel
theorem f_176_99 : decode (mB 176) 99 = .ok (.bipush 108, 2) := by decide +kernel
theorem f_176_101 : decode (mB 176) 101 = .ok (.castore, 1) := by decide +kernel
theorem f_176_102 : decode (mB 176) 102 = .ok (.dup, 1) := by decide +kernel
theorem f_176_103 : decode (mB 176) 103 = .ok (.bipush 8, 2) := by decide +kernel
theorem f_176_105 : decode (mB 176) 105 = .ok (.bipush 101, 2) := by decide +kernel
theorem f_176_107 : decode (mB 176) 107 = .ok (.castore, 1) := by decide +kernel
theorem f_176_108 : decode (mB 176) 108 = .ok (.dup, 1) := by decide +kernel
theorem f_176_109 : decode (mB 176) 109 = .ok (.bipush 9, 2) := by decide +kernel
theorem f_176_111 : decode (mB 176) 111 = .ok (.bipush 102, 2) := by decide +kernel
theorem f_176_113 : decode (mB 176) 113 = .ok (.castore, 1) := by decide +kernel
theorem f_176_114 : decode (mB 176) 114 = .ok (.dup, 1) := by decide +kernel
theorem f_176_115 : decode (mB 176) 115 = .ok (.bipush 10, 2) := by decide +kernel
theorem f_176_117 : decode (mB 176) 117 = .ok (.bipush 116, 2) := by decide +kernel
theorem f_176_119 : decode (mB 176) 119 = .ok (.castore, 1) := by decide +kernel
theorem f_176_120 : decode (mB 176) 120 = .ok (.dup, 1) := by decide +kernel
theorem f_176_121 : decode (mB 176) 121 = .ok (.bipush 11, 2) := by decide +kernel
theorem f_176_123 : decode (mB 176) 123 = .ok (.bipush 111, 2) := by decide +kernel
theorem f_176_125 : decode (mB 176) 125 = .ok (.castore, 1) := by decide +kernel
theorem f_176_126 : decode (mB 176) 126 = .ok (.dup, 1) := by decide +kernel
theorem f_176_127 : decode (mB 176) 127 = .ok (.bipush 12, 2) := by decide +kernel
theorem f_176_129 : decode (mB 176) 129 = .ok (.bipush 119, 2) := by decide +kernel
theorem f_176_131 : decode (mB 176) 131 = .ok (.castore, 1) := by decide +kernel
theorem f_176_132 : decode (mB 176) 132 = .ok (.dup, 1) := by decide +kernel
theorem f_176_133 : decode (mB 176) 133 = .ok (.bipush 13, 2) := by decide +kernel
theorem f_176_135 : decode (mB 176) 135 = .ok (.bipush 101, 2) := by decide +kernel
theorem f_176_137 : decode (mB 176) 137 = .ok (.castore, 1) := by decide +kernel
theorem f_176_138 : decode (mB 176) 138 = .ok (.dup, 1) := by decide +kernel
theorem f_176_139 : decode (mB 176) 139 = .ok (.bipush 14, 2) := by decide +kernel
theorem f_176_141 : decode (mB 176) 141 = .ok (.bipush 100, 2) := by decide +kernel
theorem f_176_143 : decode (mB 176) 143 = .ok (.castore, 1) := by decide +kernel
theorem f_176_144 : decode (mB 176) 144 = .ok (.dup, 1) := by decide +kernel
theorem f_176_145 : decode (mB 176) 145 = .ok (.bipush 15, 2) := by decide +kernel
theorem f_176_147 : decode (mB 176) 147 = .ok (.bipush 112, 2) := by decide +kernel
theorem f_176_149 : decode (mB 176) 149 = .ok (.castore, 1) := by decide +kernel
theorem f_176_150 : decode (mB 176) 150 = .ok (.dup, 1) := by decide +kernel
theorem f_176_151 : decode (mB 176) 151 = .ok (.bipush 16, 2) := by decide +kernel
theorem f_176_153 : decode (mB 176) 153 = .ok (.bipush 97, 2) := by decide +kernel
theorem f_176_155 : decode (mB 176) 155 = .ok (.castore, 1) := by decide +kernel
theorem f_176_156 : decode (mB 176) 156 = .ok (.dup, 1) := by decide +kernel
theorem f_176_157 : decode (mB 176) 157 = .ok (.bipush 17, 2) := by decide +kernel
theorem f_176_159 : decode (mB 176) 159 = .ok (.bipush 105, 2) := by decide +kernel
theorem f_176_161 : decode (mB 176) 161 = .ok (.castore, 1) := by decide +kernel
theorem f_176_162 : decode (mB 176) 162 = .ok (.dup, 1) := by decide +kernel
theorem f_176_163 : decode (mB 176) 163 = .ok (.bipush 18, 2) := by decide +kernel
theorem f_176_165 : decode (mB 176) 165 = .ok (.bipush 100, 2) := by decide +kernel
theorem f_176_167 : decode (mB 176) 167 = .ok (.castore, 1) := by decide +kernel
theorem f_176_168 : decode (mB 176) 168 = .ok (.dup, 1) := by decide +kernel
theorem f_176_169 : decode (mB 176) 169 = .ok (.bipush 19, 2) := by decide +kernel
theorem f_176_171 : decode (mB 176) 171 = .ok (.bipush 115, 2) := by decide +kernel
theorem f_176_173 : decode (mB 176) 173 = .ok (.castore, 1) := by decide +kernel
theorem f_176_174 : decode (mB 176) 174 = .ok (.dup, 1) := by decide +kernel
theorem f_176_175 : decode (mB 176) 175 = .ok (.bipush 20, 2) := by decide +kernel
theorem f_176_177 : decode (mB 176) 177 = .ok (.bipush 117, 2) := by decide +kernel
theorem f_176_179 : decode (mB 176) 179 = .ok (.castore, 1) := by decide +kernel
theorem f_176_180 : decode (mB 176) 180 = .ok (.dup, 1) := by decide +kernel
theorem f_176_181 : decode (mB 176) 181 = .ok (.bipush 21, 2) := by decide +kernel
theorem f_176_183 : decode (mB 176) 183 = .ok (.bipush 109, 2) := by decide +kernel
theorem f_176_185 : decode (mB 176) 185 = .ok (.castore, 1) := by decide +kernel
theorem f_176_186 : decode (mB 176) 186 = .ok (.dup, 1) := by decide +kernel
theorem f_176_187 : decode (mB 176) 187 = .ok (.bipush 22, 2) := by decide +kernel
theorem f_176_189 : decode (mB 176) 189 = .ok (.bipush 119, 2) := by decide +kernel
theorem f_176_191 : decode (mB 176) 191 = .ok (.castore, 1) := by decide +kernel
theorem f_176_192 : decode (mB 176) 192 = .ok (.dup, 1) := by decide +kernel
theorem f_176_193 : decode (mB 176) 193 = .ok (.bipush 23, 2) := by decide +kernel
theorem f_176_195 : decode (mB 176) 195 = .ok (.bipush 111, 2) := by decide +kernel
theorem f_176_197 : decode (mB 176) 197 = .ok (.castore, 1) := by decide +kernel
theorem f_176_198 : decode (mB 176) 198 = .ok (.dup, 1) := by decide +kernel
theorem f_176_199 : decode (mB 176) 199 = .ok (.bipush 24, 2) := by decide +kernel
theorem f_176_201 : decode (mB 176) 201 = .ok (.bipush 114, 2) := by decide +kernel
theorem f_176_203 : decode (mB 176) 203 = .ok (.castore, 1) := by decide +kernel
theorem f_176_204 : decode (mB 176) 204 = .ok (.dup, 1) := by decide +kernel
theorem f_176_205 : decode (mB 176) 205 = .ok (.bipush 25, 2) := by decide +kernel
theorem f_176_207 : decode (mB 176) 207 = .ok (.bipush 116, 2) := by decide +kernel
theorem f_176_209 : decode (mB 176) 209 = .ok (.castore, 1) := by decide +kernel
theorem f_176_210 : decode (mB 176) 210 = .ok (.dup, 1) := by decide +kernel
theorem f_176_211 : decode (mB 176) 211 = .ok (.bipush 26, 2) := by decide +kernel
theorem f_176_213 : decode (mB 176) 213 = .ok (.bipush 104, 2) := by decide +kernel
theorem f_176_215 : decode (mB 176) 215 = .ok (.castore, 1) := by decide +kernel
theorem f_176_216 : decode (mB 176) 216 = .ok (.dup, 1) := by decide +kernel
theorem f_176_217 : decode (mB 176) 217 = .ok (.bipush 27, 2) := by decide +kernel
theorem f_176_219 : decode (mB 176) 219 = .ok (.bipush 119, 2) := by decide +kernel
theorem f_176_221 : decode (mB 176) 221 = .ok (.castore, 1) := by decide +kernel
theorem f_176_222 : decode (mB 176) 222 = .ok (.dup, 1) := by decide +kernel
theorem f_176_223 : decode (mB 176) 223 = .ok (.bipush 28, 2) := by decide +kernel
theorem f_176_225 : decode (mB 176) 225 = .ok (.bipush 111, 2) := by decide +kernel
theorem f_176_227 : decode (mB 176) 227 = .ok (.castore, 1) := by decide +kernel
theorem f_176_228 : decode (mB 176) 228 = .ok (.dup, 1) := by decide +kernel
theorem f_176_229 : decode (mB 176) 229 = .ok (.bipush 29, 2) := by decide +kernel
theorem f_176_231 : decode (mB 176) 231 = .ok (.bipush 114, 2) := by decide +kernel
theorem f_176_233 : decode (mB 176) 233 = .ok (.castore, 1) := by decide +kernel
theorem f_176_234 : decode (mB 176) 234 = .ok (.dup, 1) := by decide +kernel
theorem f_176_235 : decode (mB 176) 235 = .ok (.bipush 30, 2) := by decide +kernel
theorem f_176_237 : decode (mB 176) 237 = .ok (.bipush 100, 2) := by decide +kernel
theorem f_176_239 : decode (mB 176) 239 = .ok (.castore, 1) := by decide +kernel
theorem f_176_240 : decode (mB 176) 240 = .ok (.dup, 1) := by decide +kernel
theorem f_176_241 : decode (mB 176) 241 = .ok (.bipush 31, 2) := by decide +kernel
theorem f_176_243 : decode (mB 176) 243 = .ok (.bipush 115, 2) := by decide +kernel
theorem f_176_245 : decode (mB 176) 245 = .ok (.castore, 1) := by decide +kernel
theorem f_176_246 : decode (mB 176) 246 = .ok (.dup, 1) := by decide +kernel
theorem f_176_247 : decode (mB 176) 247 = .ok (.bipush 32, 2) := by decide +kernel
theorem f_176_249 : decode (mB 176) 249 = .ok (.bipush 116, 2) := by decide +kernel
theorem f_176_251 : decode (mB 176) 251 = .ok (.castore, 1) := by decide +kernel
theorem f_176_252 : decode (mB 176) 252 = .ok (.dup, 1) := by decide +kernel
theorem f_176_253 : decode (mB 176) 253 = .ok (.bipush 33, 2) := by decide +kernel
theorem f_176_255 : decode (mB 176) 255 = .ok (.bipush 114, 2) := by decide +kernel
theorem f_176_257 : decode (mB 176) 257 = .ok (.castore, 1) := by decide +kernel
theorem f_176_258 : decode (mB 176) 258 = .ok (.dup, 1) := by decide +kernel
theorem f_176_259 : decode (mB 176) 259 = .ok (.bipush 34, 2) := by decide +kernel
theorem f_176_261 : decode (mB 176) 261 = .ok (.bipush 97, 2) := by decide +kernel
theorem f_176_263 : decode (mB 176) 263 = .ok (.castore, 1) := by decide +kernel
theorem f_176_264 : decode (mB 176) 264 = .ok (.dup, 1) := by decide +kernel
theorem f_176_265 : decode (mB 176) 265 = .ok (.bipush 35, 2) := by decide +kernel
theorem f_176_267 : decode (mB 176) 267 = .ok (.bipush 110, 2) := by decide +kernel
theorem f_176_269 : decode (mB 176) 269 = .ok (.castore, 1) := by decide +kernel
theorem f_176_270 : decode (mB 176) 270 = .ok (.dup, 1) := by decide +kernel
theorem f_176_271 : decode (mB 176) 271 = .ok (.bipush 36, 2) := by decide +kernel
theorem f_176_273 : decode (mB 176) 273 = .ok (.bipush 103, 2) := by decide +kernel
theorem f_176_275 : decode (mB 176) 275 = .ok (.castore, 1) := by decide +kernel
theorem f_176_276 : decode (mB 176) 276 = .ok (.dup, 1) := by decide +kernel
theorem f_176_277 : decode (mB 176) 277 = .ok (.bipush 37, 2) := by decide +kernel
theorem f_176_279 : decode (mB 176) 279 = .ok (.bipush 101, 2) := by decide +kernel
theorem f_176_281 : decode (mB 176) 281 = .ok (.castore, 1) := by decide +kernel
theorem f_176_282 : decode (mB 176) 282 = .ok (.dup, 1) := by decide +kernel
theorem f_176_283 : decode (mB 176) 283 = .ok (.bipush 38, 2) := by decide +kernel
theorem f_176_285 : decode (mB 176) 285 = .ok (.bipush 114, 2) := by decide +kernel
theorem f_176_287 : decode (mB 176) 287 = .ok (.castore, 1) := by decide +kernel
theorem f_176_288 : decode (mB 176) 288 = .ok (.dup, 1) := by decide +kernel
theorem f_176_289 : decode (mB 176) 289 = .ok (.bipush 39, 2) := by decide +kernel
theorem f_176_291 : decode (mB 176) 291 = .ok (.bipush 119, 2) := by decide +kernel
theorem f_176_293 : decode (mB 176) 293 = .ok (.castore, 1) := by decide +kernel
theorem f_176_294 : decode (mB 176) 294 = .ok (.dup, 1) := by decide +kernel
theorem f_176_295 : decode (mB 176) 295 = .ok (.bipush 40, 2) := by decide +kernel
theorem f_176_297 : decode (mB 176) 297 = .ok (.bipush 97, 2) := by decide +kernel
theorem f_176_299 : decode (mB 176) 299 = .ok (.castore, 1) := by decide +kernel
theorem f_176_300 : decode (mB 176) 300 = .ok (.dup, 1) := by decide +kernel
theorem f_176_301 : decode (mB 176) 301 = .ok (.bipush 41, 2) := by decide +kernel
theorem f_176_303 : decode (mB 176) 303 = .ok (.bipush 108, 2) := by decide +kernel
theorem f_176_305 : decode (mB 176) 305 = .ok (.castore, 1) := by decide +kernel
theorem f_176_306 : decode (mB 176) 306 = .ok (.dup, 1) := by decide +kernel
theorem f_176_307 : decode (mB 176) 307 = .ok (.bipush 42, 2) := by decide +kernel
theorem f_176_309 : decode (mB 176) 309 = .ok (.bipush 108, 2) := by decide +kernel
theorem f_176_311 : decode (mB 176) 311 = .ok (.castore, 1) := by decide +kernel
theorem f_176_312 : decode (mB 176) 312 = .ok (.dup, 1) := by decide +kernel
theorem f_176_313 : decode (mB 176) 313 = .ok (.bipush 43, 2) := by decide +kernel
theorem f_176_315 : decode (mB 176) 315 = .ok (.bipush 115, 2) := by decide +kernel
theorem f_176_317 : decode (mB 176) 317 = .ok (.castore, 1) := by decide +kernel
theorem f_176_318 : decode (mB 176) 318 = .ok (.dup, 1) := by decide +kernel
theorem f_176_319 : decode (mB 176) 319 = .ok (.bipush 44, 2) := by decide +kernel
theorem f_176_321 : decode (mB 176) 321 = .ok (.bipush 116, 2) := by decide +kernel
theorem f_176_323 : decode (mB 176) 323 = .ok (.castore, 1) := by decide +kernel
theorem f_176_324 : decode (mB 176) 324 = .ok (.dup, 1) := by decide +kernel
theorem f_176_325 : decode (mB 176) 325 = .ok (.bipush 45, 2) := by decide +kernel
theorem f_176_327 : decode (mB 176) 327 = .ok (.bipush 101, 2) := by decide +kernel
theorem f_176_329 : decode (mB 176) 329 = .ok (.castore, 1) := by decide +kernel
theorem f_176_330 : decode (mB 176) 330 = .ok (.dup, 1) := by decide +kernel
theorem f_176_331 : decode (mB 176) 331 = .ok (.bipush 46, 2) := by decide +kernel
theorem f_176_333 : decode (mB 176) 333 = .ok (.bipush 114, 2) := by decide +kernel
theorem f_176_335 : decode (mB 176) 335 = .ok (.castore, 1) := by decide +kernel
theorem f_176_336 : decode (mB 176) 336 = .ok (.dup, 1) := by decide +kernel
theorem f_176_337 : decode (mB 176) 337 = .ok (.bipush 47, 2) := by decide +kernel
theorem f_176_339 : decode (mB 176) 339 = .ok (.bipush 109, 2) := by decide +kernel
theorem f_176_341 : decode (mB 176) 341 = .ok (.castore, 1) := by decide +kernel
theorem f_176_342 : decode (mB 176) 342 = .ok (.dup, 1) := by decide +kernel
theorem f_176_343 : decode (mB 176) 343 = .ok (.bipush 48, 2) := by decide +kernel
theorem f_176_345 : decode (mB 176) 345 = .ok (.bipush 102, 2) := by decide +kernel
theorem f_176_347 : decode (mB 176) 347 = .ok (.castore, 1) := by decide +kernel
theorem f_176_348 : decode (mB 176) 348 = .ok (.dup, 1) := by decide +kernel
theorem f_176_349 : decode (mB 176) 349 = .ok (.bipush 49, 2) := by decide +kernel
theorem f_176_351 : decode (mB 176) 351 = .ok (.bipush 97, 2) := by decide +kernel
theorem f_176_353 : decode (mB 176) 353 = .ok (.castore, 1) := by decide +kernel
theorem f_176_354 : decode (mB 176) 354 = .ok (.dup, 1) := by decide +kernel
theorem f_176_355 : decode (mB 176) 355 = .ok (.bipush 50, 2) := by decide +kernel
theorem f_176_357 : decode (mB 176) 357 = .ok (.bipush 108, 2) := by decide +kernel
theorem f_176_359 : decode (mB 176) 359 = .ok (.castore, 1) := by decide +kernel
theorem f_176_360 : decode (mB 176) 360 = .ok (.dup, 1) := by decide +kernel
theorem f_176_361 : decode (mB 176) 361 = .ok (.bipush 51, 2) := by decide +kernel
theorem f_176_363 : decode (mB 176) 363 = .ok (.bipush 108, 2) := by decide +kernel
theorem f_176_365 : decode (mB 176) 365 = .ok (.castore, 1) := by decide +kernel
theorem f_176_366 : decode (mB 176) 366 = .ok (.dup, 1) := by decide +kernel
theorem f_176_367 : decode (mB 176) 367 = .ok (.bipush 52, 2) := by decide +kernel
theorem f_176_369 : decode (mB 176) 369 = .ok (.bipush 115, 2) := by decide +kernel
theorem f_176_371 : decode (mB 176) 371 = .ok (.castore, 1) := by decide +kernel
theorem f_176_372 : decode (mB 176) 372 = .ok (.dup, 1) := by decide +kernel
theorem f_176_373 : decode (mB 176) 373 = .ok (.bipush 53, 2) := by decide +kernel
theorem f_176_375 : decode (mB 176) 375 = .ok (.bipush 98, 2) := by decide +kernel
theorem f_176_377 : decode (mB 176) 377 = .ok (.castore, 1) := by decide +kernel
theorem f_176_378 : decode (mB 176) 378 = .ok (.dup, 1) := by decide +kernel
theorem f_176_379 : decode (mB 176) 379 = .ok (.bipush 54, 2) := by decide +kernel
theorem f_176_381 : decode (mB 176) 381 = .ok (.bipush 97, 2) := by decide +kernel
theorem f_176_383 : decode (mB 176) 383 = .ok (.castore, 1) := by decide +kernel
theorem f_176_384 : decode (mB 176) 384 = .ok (.dup, 1) := by decide +kernel
theorem f_176_385 : decode (mB 176) 385 = .ok (.bipush 55, 2) := by decide +kernel
theorem f_176_387 : decode (mB 176) 387 = .ok (.bipush 99, 2) := by decide +kernel
theorem f_176_389 : decode (mB 176) 389 = .ok (.castore, 1) := by decide +kernel
theorem f_176_390 : decode (mB 176) 390 = .ok (.dup, 1) := by decide +kernel
theorem f_176_391 : decode (mB 176) 391 = .ok (.bipush 56, 2) := by decide +kernel
theorem f_176_393 : decode (mB 176) 393 = .ok (.bipush 107, 2) := by decide +kernel
theorem f_176_395 : decode (mB 176) 395 = .ok (.castore, 1) := by decide +kernel
theorem f_176_396 : decode (mB 176) 396 = .ok (.dup, 1) := by decide +kernel
theorem f_176_397 : decode (mB 176) 397 = .ok (.bipush 57, 2) := by decide +kernel
theorem f_176_399 : decode (mB 176) 399 = .ok (.bipush 108, 2) := by decide +kernel
theorem f_176_401 : decode (mB 176) 401 = .ok (.castore, 1) := by decide +kernel
theorem f_176_402 : decode (mB 176) 402 = .ok (.dup, 1) := by decide +kernel
theorem f_176_403 : decode (mB 176) 403 = .ok (.bipush 58, 2) := by decide +kernel
theorem f_176_405 : decode (mB 176) 405 = .ok (.bipush 111, 2) := by decide +kernel
theorem f_176_407 : decode (mB 176) 407 = .ok (.castore, 1) := by decide +kernel
theorem f_176_408 : decode (mB 176) 408 = .ok (.dup, 1) := by decide +kernel
theorem f_176_409 : decode (mB 176) 409 = .ok (.bipush 59, 2) := by decide +kernel
theorem f_176_411 : decode (mB 176) 411 = .ok (.bipush 97, 2) := by decide +kernel
theorem f_176_413 : decode (mB 176) 413 = .ok (.castore, 1) := by decide +kernel
theorem f_176_414 : decode (mB 176) 414 = .ok (.dup, 1) := by decide +kernel
theorem f_176_415 : decode (mB 176) 415 = .ok (.bipush 60, 2) := by decide +kernel
theorem f_176_417 : decode (mB 176) 417 = .ok (.bipush 110, 2) := by decide +kernel
theorem f_176_419 : decode (mB 176) 419 = .ok (.castore, 1) := by decide +kernel
theorem f_176_420 : decode (mB 176) 420 = .ok (.dup, 1) := by decide +kernel
theorem f_176_421 : decode (mB 176) 421 = .ok (.bipush 61, 2) := by decide +kernel
theorem f_176_423 : decode (mB 176) 423 = .ok (.bipush 111, 2) := by decide +kernel
theorem f_176_425 : decode (mB 176) 425 = .ok (.castore, 1) := by decide +kernel
theorem f_176_426 : decode (mB 176) 426 = .ok (.dup, 1) := by decide +kernel
theorem f_176_427 : decode (mB 176) 427 = .ok (.bipush 62, 2) := by decide +kernel
theorem f_176_429 : decode (mB 176) 429 = .ok (.bipush 114, 2) := by decide +kernel
theorem f_176_431 : decode (mB 176) 431 = .ok (.castore, 1) := by decide +kernel
theorem f_176_432 : decode (mB 176) 432 = .ok (.dup, 1) := by decide +kernel
theorem f_176_433 : decode (mB 176) 433 = .ok (.bipush 63, 2) := by decide +kernel
theorem f_176_435 : decode (mB 176) 435 = .ok (.bipush 97, 2) := by decide +kernel
theorem f_176_437 : decode (mB 176) 437 = .ok (.castore, 1) := by decide +kernel
theorem f_176_438 : decode (mB 176) 438 = .ok (.dup, 1) := by decide +kernel
theorem f_176_439 : decode (mB 176) 439 = .ok (.bipush 64, 2) := by decide +kernel
theorem f_176_441 : decode (mB 176) 441 = .ok (.bipush 110, 2) := by decide +kernel
theorem f_176_443 : decode (mB 176) 443 = .ok (.castore, 1) := by decide +kernel
theorem f_176_444 : decode (mB 176) 444 = .ok (.dup, 1) := by decide +kernel
theorem f_176_445 : decode (mB 176) 445 = .ok (.bipush 65, 2) := by decide +kernel
theorem f_176_447 : decode (mB 176) 447 = .ok (.bipush 100, 2) := by decide +kernel
theorem f_176_449 : decode (mB 176) 449 = .ok (.castore, 1) := by decide +kernel
theorem f_176_450 : decode (mB 176) 450 = .ok (.dup, 1) := by decide +kernel
theorem f_176_451 : decode (mB 176) 451 = .ok (.bipush 66, 2) := by decide +kernel
theorem f_176_453 : decode (mB 176) 453 = .ok (.bipush 110, 2) := by decide +kernel
theorem f_176_455 : decode (mB 176) 455 = .ok (.castore, 1) := by decide +kernel
theorem f_176_456 : decode (mB 176) 456 = .ok (.dup, 1) := by decide +kernel
theorem f_176_457 : decode (mB 176) 457 = .ok (.bipush 67, 2) := by decide +kernel
theorem f_176_459 : decode (mB 176) 459 = .ok (.bipush 111, 2) := by decide +kernel
theorem f_176_461 : decode (mB 176) 461 = .ok (.castore, 1) := by decide +kernel
theorem f_176_462 : decode (mB 176) 462 = .ok (.dup, 1) := by decide +kernel
theorem f_176_463 : decode (mB 176) 463 = .ok (.bipush 68, 2) := by decide +kernel
theorem f_176_465 : decode (mB 176) 465 = .ok (.bipush 116, 2) := by decide +kernel
theorem f_176_467 : decode (mB 176) 467 = .ok (.castore, 1) := by decide +kernel
theorem f_176_468 : decode (mB 176) 468 = .ok (.putfield 30, 3) := by decide +kernel
theorem f_176_471 : decode (mB 176) 471 = .ok (.aload_n 0, 1) := by decide +kernel
theorem f_176_472 : decode (mB 176) 472 = .ok (.bipush 18, 2) := by decide +kernel
theorem f_176_474 : decode (mB 176) 474 = .ok (.newarray .int, 2) := by decide +kernel
theorem f_176_476 : decode (mB 176) 476 = .ok (.dup, 1) := by decide +kernel
theorem f_176_477 : decode (mB 176) 477 = .ok (.iconst 0, 1) := by decide +kernel
theorem f_176_478 : decode (mB 176) 478 = .ok (.iconst 0, 1) := by decide +kernel
theorem f_176_479 : decode (mB 176) 479 = .ok (.iastore, 1) := by decide +kernel
theorem f_176_480 : decode (mB 176) 480 = .ok (.dup, 1) := by decide +kernel
theorem f_176_481 : decode (mB 176) 481 = .ok (.iconst 1, 1) := by decide +kernel
theorem f_176_482 : decode (mB 176) 482 = .ok (.iconst 4, 1) := by decide +kernel
theorem f_176_483 : decode (mB 176) 483 = .ok (.iastore, 1) := by decide +kernel
theorem f_176_484 : decode (mB 176) 484 = .ok (.dup, 1) := by decide +kernel
theorem f_176_485 : decode (mB 176) 485 = .ok (.iconst 2, 1) := by decide +kernel
theorem f_176_486 : decode (mB 176) 486 = .ok (.bipush 7, 2) := by decide +kernel
theorem f_176_488 : decode (mB 176) 488 = .ok (.iastore, 1) := by decide +kernel
theorem f_176_489 : decode (mB 176) 489 = .ok (.dup, 1) := by decide +kernel
theorem f_176_490 : decode (mB 176) 490 = .ok (.iconst 3, 1) := by decide +kernel
theorem f_176_491 : decode (mB 176) 491 = .ok (.bipush 11, 2) := by decide +kernel
theorem f_176_493 : decode (mB 176) 493 = .ok (.iastore, 1) := by decide +kernel
theorem f_176_494 : decode (mB 176) 494 = .ok (.dup, 1) := by decide +kernel
theorem f_176_495 : decode (mB 176) 495 = .ok (.iconst 4, 1) := by decide +kernel
theorem f_176_496 : decode (mB 176) 496 = .ok (.bipush 15, 2) := by decide +kernel
theorem f_176_498 : decode (mB 176) 498 = .ok (.iastore, 1) := by decide +kernel
theorem f_176_499 : decode (mB 176) 499 = .ok (.dup, 1) := by decide +kernel
theorem f_176_500 : decode (mB 176) 500 = .ok (.iconst 5, 1) := by decide +kernel
theorem f_176_501 : decode (mB 176) 501 = .ok (.bipush 19, 2) := by decide +kernel
theorem f_176_503 : decode (mB 176) 503 = .ok (.iastore, 1) := by decide +kernel
theorem f_176_504 : decode (mB 176) 504 = .ok (.dup, 1) := by decide +kernel
theorem f_176_505 : decode (mB 176) 505 = .ok (.bipush 6, 2) := by decide +kernel
theorem f_176_507 : decode (mB 176) 507 = .ok (.bipush 22, 2) := by decide +kernel
theorem f_176_509 : decode (mB 176) 509 = .ok (.iastore, 1) := by decide +kernel
theorem f_176_510 : decode (mB 176) 510 = .ok (.dup, 1) := by decide +kernel
theorem f_176_511 : decode (mB 176) 511 = .ok (.bipush 7, 2) := by decide +kernel
theorem f_176_513 : decode (mB 176) 513 = .ok (.bipush 27, 2) := by decide +kernel
theorem f_176_515 : decode (mB 176) 515 = .ok (.iastore, 1) := by decide +kernel
theorem f_176_516 : decode (mB 176) 516 = .ok (.dup, 1) := by decide +kernel
theorem f_176_517 : decode (mB 176) 517 = .ok (.bipush 8, 2) := by decide +kernel
theorem f_176_519 : decode (mB 176) 519 = .ok (.bipush 31, 2) := by decide +kernel
theorem f_176_521 : decode (mB 176) 521 = .ok (.iastore, 1) := by decide +kernel
theorem f_176_522 : decode (mB 176) 522 = .ok (.dup, 1) := by decide +kernel
theorem f_176_523 : decode (mB 176) 523 = .ok (.bipush 9, 2) := by decide +kernel
theorem f_176_525 : decode (mB 176) 525 = .ok (.bipush 39, 2) := by decide +kernel
theorem f_176_527 : decode (mB 176) 527 = .ok (.iastore, 1) := by decide +kernel
theorem f_176_528 : decode (mB 176) 528 = .ok (.dup, 1) := by decide +kernel
theorem f_176_529 : decode (mB 176) 529 = .ok (.bipush 10, 2) := by decide +kernel
theorem f_176_531 : decode (mB 176) 531 = .ok (.bipush 44, 2) := by decide +kernel
theorem f_176_533 : decode (mB 176) 533 = .ok (.iastore, 1) := by decide +kernel
theorem f_176_534 : decode (mB 176) 534 = .ok (.dup, 1) := by decide +kernel
theorem f_176_535 : decode (mB 176) 535 = .ok (.bipush 11, 2) := by decide +kernel
theorem f_176_537 : decode (mB 176) 537 = .ok (.bipush 48, 2) := by decide +kernel
theorem f_176_539 : decode (mB 176) 539 = .ok (.iastore, 1) := by decide +kernel
theorem f_176_540 : decode (mB 176) 540 = .ok (.dup, 1) := by decide +kernel
theorem f_176_541 : decode (mB 176) 541 = .ok (.bipush 12, 2) := by decide +kernel
theorem f_176_543 : decode (mB 176) 543 = .ok (.bipush 53, 2) := by decide +kernel
theorem f_176_545 : decode (mB 176) 545 = .ok (.iastore, 1) := by decide +kernel
theorem f_176_546 : decode (mB 176) 546 = .ok (.dup, 1) := by decide +kernel
theorem f_176_547 : decode (mB 176) 547 = .ok (.bipush 13, 2) := by decide +kernel
theorem f_176_549 : decode (mB 176) 549 = .ok (.bipush 57, 2) := by decide +kernel
theorem f_176_551 : decode (mB 176) 551 = .ok (.iastore, 1) := by decide +kernel
theorem f_176_552 : decode (mB 176) 552 = .ok (.dup, 1) := by decide +kernel
theorem f_176_553 : decode (mB 176) 553 = .ok (.bipush 14, 2) := by decide +kernel
theorem f_176_555 : decode (mB 176) 555 = .ok (.bipush 61, 2) := by decide +kernel
theorem f_176_557 : decode (mB 176) 557 = .ok (.iastore, 1) := by decide +kernel
theorem f_176_558 : decode (mB 176) 558 = .ok (.dup, 1) := by decide +kernel
theorem f_176_559 : decode (mB 176) 559 = .ok (.bipush 15, 2) := by decide +kernel
theorem f_176_561 : decode (mB 176) 561 = .ok (.bipush 63, 2) := by decide +kernel
theorem f_176_563 : decode (mB 176) 563 = .ok (.iastore, 1) := by decide +kernel
theorem f_176_564 : decode (mB 176) 564 = .ok (.dup, 1) := by decide +kernel
theorem f_176_565 : decode (mB 176) 565 = .ok (.bipush 16, 2) := by decide +kernel
theorem f_176_567 : decode (mB 176) 567 = .ok (.bipush 66, 2) := by decide +kernel
theorem f_176_569 : decode (mB 176) 569 = .ok (.iastore, 1) := by decide +kernel
theorem f_176_570 : decode (mB 176) 570 = .ok (.dup, 1) := by decide +kernel
theorem f_176_571 : decode (mB 176) 571 = .ok (.bipush 17, 2) := by decide +kernel
theorem f_176_573 : decode (mB 176) 573 = .ok (.bipush 69, 2) := by decide +kernel
theorem f_176_575 : decode (mB 176) 575 = .ok (.iastore, 1) := by decide +kernel
theorem f_176_576 : decode (mB 176) 576 = .ok (.putfield 34, 3) := by decide +kernel
theorem f_176_579 : decode (mB 176) 579 = .ok (.aload_n 0, 1) := by decide +kernel
theorem f_176_580 : decode (mB 176) 580 = .ok (.sipush 609, 3) := by decide +kernel
theorem f_176_583 : decode (mB 176) 583 = .ok (.newarray .int, 2) := by decide +kernel
theorem f_176_585 : decode (mB 176) 585 = .ok (.putfield 37, 3) := by decide +kernel
theorem f_176_588 : decode (mB 176) 588 = .ok (.aload_n 0, 1) := by decide +kernel
theorem f_176_589 : decode (mB 176) 589 = .ok (.sipush 200, 3) := by decide +kernel
theorem f_176_592 : decode (mB 176) 592 = .ok (.newarray .int, 2) := by decide +kernel
theorem f_176_594 : decode (mB 176) 594 = .ok (.putfield 40, 3) := by decide +kernel
theorem f_176_597 : decode (mB 176) 597 = .ok (.aload_n 0, 1) := by decide +kernel
theorem f_176_598 : decode (mB 176) 598 = .ok (.sipush 200, 3) := by decide +kernel
theorem f_176_601 : decode (mB 176) 601 = .ok (.newarray .int, 2) := by decide +kernel
theorem f_176_603 : decode (mB 176) 603 = .ok (.putfield 43, 3) := by decide +kernel
theorem f_176_606 : decode (mB 176) 606 = .ok (.aload_n 0, 1) := by decide +kernel
theorem f_176_607 : decode (mB 176) 607 = .ok (.bipush 11, 2) := by decide +kernel
theorem f_176_609 : decode (mB 176) 609 = .ok (.newarray .int, 2) := by decide +kernel
theorem f_176_611 : decode (mB 176) 611 = .ok (.putfield 46, 3) := by decide +kernel
theorem f_176_614 : decode (mB 176) 614 = .ok (.aload_n 0, 1) := by decide +kernel
theorem f_176_615 : decode (mB 176) 615 = .ok (.ldc 49, 2) := by decide +kernel
theorem f_176_617 : decode (mB 176) 617 = .ok (.newarray .int, 2) := by decide +kernel
theorem f_176_619 : decode (mB 176) 619 = .ok (.putfield 50, 3) := by decide +kernel
theorem f_176_622 : decode (mB 176) 622 = .ok (.aload_n 0, 1) := by decide +kernel
theorem f_176_623 : decode (mB 176) 623 = .ok (.iconst 4, 1) := by decide +kernel
theorem f_176_624 : decode (mB 176) 624 = .ok (.newarray .int, 2) := by decide +kernel
theorem f_176_626 : decode (mB 176) 626 = .ok (.putfield 53, 3) := by decide +kernel
theorem f_176_629 : decode (mB 176) 629 = .ok (.aload_n 0, 1) := by decide +kernel
theorem f_176_630 : decode (mB 176) 630 = .ok (.iconst 4, 1) := by decide +kernel
theorem f_176_631 : decode (mB 176) 631 = .ok (.newarray .int, 2) := by decide +kernel
theorem f_176_633 : decode (mB 176) 633 = .ok (.putfield 56, 3) := by decide +kernel
theorem f_176_636 : decode (mB 176) 636 = .ok (.aload_n 0, 1) := by decide +kernel
theorem f_176_637 : decode (mB 176) 637 = .ok (.bipush 80, 2) := by decide +kernel
theorem f_176_639 : decode (mB 176) 639 = .ok (.newarray .int, 2) := by decide +kernel
theorem f_176_641 : decode (mB 176) 641 = .ok (.putfield 59, 3) := by decide +kernel
theorem f_176_644 : decode (mB 176) 644 = .ok (.aload_n 0, 1) := by decide +kernel
theorem f_176_645 : decode (mB 176) 645 = .ok (.bipush 20, 2) := by decide +kernel
theorem f_176_647 : decode (mB 176) 647 = .ok (.newarray .int, 2) := by decide +kernel
theorem f_176_649 : decode (mB 176) 649 = .ok (.putfield 62, 3) := by decide +kernel
theorem f_176_652 : decode (mB 176) 652 = .ok (.return_, 1) := by decide +kernel
theorem f_177_0 : decode (mB 177) 0 = .ok (.aload_n 0, 1) := by decide +kernel
theorem f_177_1 : decode (mB 177) 1 = .ok (.getfield 7, 3) := by decide +kernel
theorem f_177_4 : decode (mB 177) 4 = .ok (.iconst 0, 1) := by decide +kernel
theorem f_177_5 : decode (mB 177) 5 = .ok (.iaload, 1) := by decide +kernel
theorem f_177_6 : decode (mB 177) 6 = .ok (.istore 5, 2) := by decide +kernel
theorem f_177_8 : decode (mB 177) 8 = .ok (.iload_n 1, 1) := by decide +kernel
theorem f_177_9 : decode (mB 177) 9 = .ok (.bipush (-99), 2) := by decide +kernel
theorem f_177_11 : decode (mB 177) 11 = .ok (.sipush 300, 3) := by decide +kernel
theorem f_177_14 : decode (mB 177) 14 = .ok (.invokestatic 69, 3) := by decide +kernel
theorem f_177_17 : decode (mB 177) 17 = .ok (.ifCond .eq 58, 3) := by decide +kernel
theorem f_177_20 : decode (mB 177) 20 = .ok (.iload_n 1, 1) := by decide +kernel
theorem f_177_21 : decode (mB 177) 21 = .ok (.aload_n 0, 1) := by decide +kernel
theorem f_177_22 : decode (mB 177) 22 = .ok (.getfield 7, 3) := by decide +kernel
theorem f_177_25 : decode (mB 177) 25 = .ok (.iconst 3, 1) := by decide +kernel
theorem f_177_26 : decode (mB 177) 26 = .ok (.iaload, 1) := by decide +kernel
theorem f_177_27 : decode (mB 177) 27 = .ok (.if_icmp .gt 48, 3) := by decide +kernel
theorem f_177_30 : decode (mB 177) 30 = .ok (.iload_n 2, 1) := by decide +kernel
theorem f_177_31 : decode (mB 177) 31 = .ok (.iconst (-1), 1) := by decide +kernel
theorem f_177_32 : decode (mB 177) 32 = .ok (.iload 5, 2) := by decide +kernel
theorem f_177_34 : decode (mB 177) 34 = .ok (.iconst 1, 1) := by decide +kernel
theorem f_177_35 : decode (mB 177) 35 = .ok (.isub, 1) := by decide +kernel
theorem f_177_36 : decode (mB 177) 36 = .ok (.invokestatic 69, 3) := by decide +kernel
theorem f_177_39 : decode (mB 177) 39 = .ok (.ifCond .eq 36, 3) := by decide +kernel
theorem f_177_42 : decode (mB 177) 42 = .ok (.iload_n 3, 1) := by decide +kernel
theorem f_177_43 : decode (mB 177) 43 = .ok (.iconst (-1), 1) := by decide +kernel
theorem f_177_44 : decode (mB 177) 44 = .ok (.iload 5, 2) := by decide +kernel
theorem f_177_46 : decode (mB 177) 46 = .ok (.iconst 1, 1) := by decide +kernel
theorem f_177_47 : decode (mB 177) 47 = .ok (.isub, 1) := by decide +kernel
theorem f_177_48 : decode (mB 177) 48 = .ok (.invokestatic 69, 3) := by decide +kernel
theorem f_177_51 : decode (mB 177) 51 = .ok (.ifCond .eq 24, 3) := by decide +kernel
theorem f_177_54 : decode (mB 177) 54 = .ok (.iload_n 2, 1) := by decide +kernel
theorem f_177_55 : decode (mB 177) 55 = .ok (.ifCond .lt 8, 3) := by decide +kernel
theorem f_177_58 : decode (mB 177) 58 = .ok (.iload_n 2, 1) := by decide +kernel
theorem f_177_59 : decode (mB 177) 59 = .ok (.iload_n 3, 1) := by decide +kernel
theorem f_177_60 : decode (mB 177) 60 = .ok (.if_icmp .eq 15, 3) := by decide +kernel
theorem f_177_63 : decode (mB 177) 63 = .ok (.iload 4, 2) := by decide +kernel
theorem f_177_65 : decode (mB 177) 65 = .ok (.iconst 0, 1) := by decide +kernel
theorem f_177_66 : decode (mB 177) 66 = .ok (.sipush 9999, 3) := by decide +kernel
theorem f_177_69 : decode (mB 177) 69 = .ok (.invokestatic 69, 3) := by decide +kernel
theorem f_177_72 : decode (mB 177) 72 = .ok (.ifCond .ne 10, 3) := by decide +kernel
theorem f_177_75 : decode (mB 177) 75 = .ok (.aload_n 0, 1) := by decide +kernel
theorem f_177_76 : decode (mB 177) 76 = .ok (.ldc 77, 2) := by decide +kernel
theorem f_177_78 : decode (mB 177) 78 = .ok (.invokevirtual 78, 3) := by decide +kernel
theorem f_177_81 : decode (mB 177) 81 = .ok (.ireturn, 1) := by decide +kernel
theorem f_177_82 : decode (mB 177) 82 = .ok (.iload 5, 2) := by decide +kernel
theorem f_177_84 : decode (mB 177) 84 = .ok (.bipush 14, 2) := by decide +kernel
theorem f_177_86 : decode (mB 177) 86 = .ok (.if_icmp .ne 10, 3) := by decide +kernel
theorem f_177_89 : decode (mB 177) 89 = .ok (.aload_n 0, 1) := by decide +kernel
theorem f_177_90 : decode (mB 177) 90 = .ok (.ldc 82, 2) := by decide +kernel
theorem f_177_92 : decode (mB 177) 92 = .ok (.invokevirtual 78, 3) := by decide +kernel
theorem f_177_95 : decode (mB 177) 95 = .ok (.ireturn, 1) := by decide +kernel
theorem f_177_96 : decode (mB 177) 96 = .ok (.aload_n 0, 1) := by decide +kernel
theorem f_177_97 : decode (mB 177) 97 = .ok (.getfield 7, 3) := by decide +kernel
theorem f_177_100 : decode (mB 177) 100 = .ok (.iconst 0, 1) := by decide +kernel
theorem f_177_101 : decode (mB 177) 101 = .ok (.dup2, 1) := by decide +kernel
theorem f_177_102 : decode (mB 177) 102 = .ok (.iaload, 1) := by decide +kernel
theorem f_177_103 : decode (mB 177) 103 = .ok (.iconst 1, 1) := by decide +kernel
theorem f_177_104 : decode (mB 177) 104 = .ok (.iadd, 1) := by decide +kernel
theorem f_177_105 : decode (mB 177) 105 = .ok (.iastore, 1) := by decide +kernel
theorem f_177_106 : decode (mB 177) 106 = .ok (.aload_n 0, 1) := by decide +kernel
theorem f_177_107 : decode (mB 177) 107 = .ok (.iload 5, 2) := by decide +kernel
theorem f_177_109 : decode (mB 177) 109 = .ok (.iconst 0, 1) := by decide +kernel
theorem f_177_110 : decode (mB 177) 110 = .ok (.iload_n 1, 1) := by decide +kernel
theorem f_177_111 : decode (mB 177) 111 = .ok (.invokevirtual 83, 3) := by decide +kernel
theorem f_177_114 : decode (mB 177) 114 = .ok (.aload_n 0, 1) := by decide +kernel
theorem f_177_115 : decode (mB 177) 115 = .ok (.iload 5, 2) := by decide +kernel
theorem f_177_117 : decode (mB 177) 117 = .ok (.iconst 1, 1) := by decide +kernel
theorem f_177_118 : decode (mB 177) 118 = .ok (.iload_n 2, 1) := by decide +kernel
theorem f_177_119 : decode (mB 177) 119 = .ok (.invokevirtual 83, 3) := by decide +kernel
theorem f_177_122 : decode (mB 177) 122 = .ok (.aload_n 0, 1) := by decide +kernel
theorem f_177_123 : decode (mB 177) 123 = .ok (.iload 5, 2) := by decide +kernel
theorem f_177_125 : decode (mB 177) 125 = .ok (.iconst 2, 1) := by decide +kernel
theorem f_177_126 : decode (mB 177) 126 = .ok (.iload_n 3, 1) := by decide +kernel
theorem f_177_127 : decode (mB 177) 127 = .ok (.invokevirtual 83, 3) := by decide +kernel
theorem f_177_130 : decode (mB 177) 130 = .ok (.aload_n 0, 1) := by decide +kernel
theorem f_177_131 : decode (mB 177) 131 = .ok (.iload 5, 2) := by decide +kernel
theorem f_177_133 : decode (mB 177) 133 = .ok (.iconst 3, 1) := by decide +kernel
theorem f_177_134 : decode (mB 177) 134 = .ok (.iconst (-1), 1) := by decide +kernel
theorem f_177_135 : decode (mB 177) 135 = .ok (.invokevirtual 83, 3) := by decide +kernel
theorem f_177_138 : decode (mB 177) 138 = .ok (.aload_n 0, 1) := by decide +kernel
theorem f_177_139 : decode (mB 177) 139 = .ok (.iload 5, 2) := by decide +kernel
theorem f_177_141 : decode (mB 177) 141 = .ok (.iconst 4, 1) := by decide +kernel
theorem f_177_142 : decode (mB 177) 142 = .ok (.iconst 0, 1) := by decide +kernel
theorem f_177_143 : decode (mB 177) 143 = .ok (.invokevirtual 83, 3) := by decide +kernel
theorem f_177_146 : decode (mB 177) 146 = .ok (.aload_n 0, 1) := by decide +kernel
theorem f_177_147 : decode (mB 177) 147 = .ok (.iload 5, 2) := by decide +kernel
theorem f_177_149 : decode (mB 177) 149 = .ok (.iconst 5, 1) := by decide +kernel
theorem f_177_150 : decode (mB 177) 150 = .ok (.iconst 0, 1) := by decide +kernel
theorem f_177_151 : decode (mB 177) 151 = .ok (.invokevirtual 83, 3) := by decide +kernel
theorem f_177_154 : decode (mB 177) 154 = .ok (.aload_n 0, 1) := by decide +kernel
theorem f_177_155 : decode (mB 177) 155 = .ok (.iload 5, 2) := by decide +kernel
theorem f_177_157 : decode (mB 177) 157 = .ok (.bipush 6, 2) := by decide +kernel
theorem f_177_159 : decode (mB 177) 159 = .ok (.iload 4, 2) := by decide +kernel
theorem f_177_161 : decode (mB 177) 161 = .ok (.invokevirtual 83, 3) := by decide +kernel
theorem f_177_164 : decode (mB 177) 164 = .ok (.aload_n 0, 1) := by decide +kernel
theorem f_177_165 : decode (mB 177) 165 = .ok (.iload 5, 2) := by decide +kernel
theorem f_177_167 : decode (mB 177) 167 = .ok (.bipush 7, 2) := by decide +kernel
theorem f_177_169 : decode (mB 177) 169 = .ok (.iconst 3, 1) := by decide +kernel
theorem f_177_170 : decode (mB 177) 170 = .ok (.invokevirtual 83, 3) := by decide +kernel
theorem f_177_173 : decode (mB 177) 173 = .ok (.aload_n 0, 1) := by decide +kernel
theorem f_177_174 : decode (mB 177) 174 = .ok (.iload 5, 2) := by decide +kernel
theorem f_177_176 : decode (mB 177) 176 = .ok (.bipush 8, 2) := by decide +kernel
theorem f_177_178 : decode (mB 177) 178 = .ok (.iconst (-1), 1) := by decide +kernel
theorem f_177_179 : decode (mB 177) 179 = .ok (.invokevirtual 83, 3) := by decide +kernel
theorem f_177_182 : decode (mB 177) 182 = .ok (.aload_n 0, 1) := by decide +kernel
theorem f_177_183 : decode (mB 177) 183 = .ok (.iload 5, 2) := by decide +kernel
theorem f_177_185 : decode (mB 177) 185 = .ok (.bipush 9, 2) := by decide +kernel
theorem f_177_187 : decode (mB 177) 187 = .ok (.iconst 0, 1) := by decide +kernel
theorem f_177_188 : decode (mB 177) 188 = .ok (.invokevirtual 83, 3) := by decide +kernel
theorem f_177_191 : decode (mB 177) 191 = .ok (.iload 5, 2) := by decide +kernel
theorem f_177_193 : decode (mB 177) 193 = .ok (.ireturn, 1) := by decide +kernel
theorem f_178_0 : decode (mB 178) 0 = .ok (.iload_n 0, 1) := by decide +kernel
theorem f_178_1 : decode (mB 178) 1 = .ok (.iload_n 1, 1) := by decide +kernel
theorem f_178_2 : decode (mB 178) 2 = .ok (.if_icmp .lt 12, 3) := by decide +kernel
theorem f_178_5 : decode (mB 178) 5 = .ok (.iload_n 0, 1) := by decide +kernel
theorem f_178_6 : decode (mB 178) 6 = .ok (.iload_n 2, 1) := by decide +kernel
theorem f_178_7 : decode (mB 178) 7 = .ok (.if_icmp .gt 7, 3) := by decide +kernel
theorem f_178_10 : decode (mB 178) 10 = .ok (.iconst 1, 1) := by decide +kernel
theorem f_178_11 : decode (mB 178) 11 = .ok (.goto 4, 3) := by decide +kernel
theorem f_178_14 : decode (mB 178) 14 = .ok (.iconst 0, 1) := by decide +kernel
theorem f_178_15 : decode (mB 178) 15 = .ok (.ireturn, 1) := by decide +kernel
theorem f_179_0 : decode (mB 179) 0 = .ok (.aload_n 0, 1) := by decide +kernel
theorem f_179_1 : decode (mB 179) 1 = .ok (.dup, 1) := by decide +kernel
theorem f_179_2 : decode (mB 179) 2 = .ok (.getfield 65, 3) := by decide +kernel
theorem f_179_5 : decode (mB 179) 5 = .ok (.iconst 1, 1) := by decide +kernel
theorem f_179_6 : decode (mB 179) 6 = .ok (.iadd, 1) := by decide +kernel
theorem f_179_7 : decode (mB 179) 7 = .ok (.putfield 65, 3) := by decide +kernel
theorem f_179_10 : decode (mB 179) 10 = .ok (.iload_n 1, 1) := by decide +kernel
theorem f_179_11 : decode (mB 179) 11 = .ok (.ireturn, 1) := by decide +kernel
theorem f_180_0 : decode (mB 180) 0 = .ok (.aload_n 0, 1) := by decide +kernel
theorem f_180_1 : decode (mB 180) 1 = .ok (.getfield 7, 3) := by decide +kernel
theorem f_180_4 : decode (mB 180) 4 = .ok (.bipush 10, 2) := by decide +kernel
theorem f_180_6 : decode (mB 180) 6 = .ok (.bipush 10, 2) := by decide +kernel
theorem f_180_8 : decode (mB 180) 8 = .ok (.iload_n 1, 1) := by decide +kernel
theorem f_180_9 : decode (mB 180) 9 = .ok (.imul, 1) := by decide +kernel
theorem f_180_10 : decode (mB 180) 10 = .ok (.iadd, 1) := by decide +kernel
theorem f_180_11 : decode (mB 180) 11 = .ok (.iload_n 2, 1) := by decide +kernel
theorem f_180_12 : decode (mB 180) 12 = .ok (.iadd, 1) := by decide +kernel
theorem f_180_13 : decode (mB 180) 13 = .ok (.iload_n 3, 1) := by decide +kernel
theorem f_180_14 : decode (mB 180) 14 = .ok (.iastore, 1) := by decide +kernel
theorem f_180_15 : decode (mB 180) 15 = .ok (.return_, 1) := by decide +kernel
theorem f_181_0 : decode (mB 181) 0 = .ok (.aload_n 0, 1) := by decide +kernel
theorem f_181_1 : decode (mB 181) 1 = .ok (.iload_n 1, 1) := by decide +kernel
theorem f_181_2 : decode (mB 181) 2 = .ok (.invokevirtual 87, 3) := by decide +kernel
theorem f_181_5 : decode (mB 181) 5 = .ok (.ifCond .ne 10, 3) := by decide +kernel
theorem f_181_8 : decode (mB 181) 8 = .ok (.aload_n 0, 1) := by decide +kernel
theorem f_181_9 : decode (mB 181) 9 = .ok (.ldc 77, 2) := by decide +kernel
theorem f_181_11 : decode (mB 181) 11 = .ok (.invokevirtual 78, 3) := by decide +kernel
theorem f_181_14 : decode (mB 181) 14 = .ok (.ireturn, 1) := by decide +kernel
theorem f_181_15 : decode (mB 181) 15 = .ok (.aload_n 0, 1) := by decide +kernel
theorem f_181_16 : decode (mB 181) 16 = .ok (.iload_n 1, 1) := by decide +kernel
theorem f_181_17 : decode (mB 181) 17 = .ok (.iconst 4, 1) := by decide +kernel
theorem f_181_18 : decode (mB 181) 18 = .ok (.iload_n 2, 1) := by decide +kernel
theorem f_181_19 : decode (mB 181) 19 = .ok (.ifCond .eq 7, 3) := by decide +kernel
theorem f_181_22 : decode (mB 181) 22 = .ok (.iconst 1, 1) := by decide +kernel
theorem f_181_23 : decode (mB 181) 23 = .ok (.goto 4, 3) := by decide +kernel
theorem f_181_26 : decode (mB 181) 26 = .ok (.iconst 0, 1) := by decide +kernel
theorem f_181_27 : decode (mB 181) 27 = .ok (.invokevirtual 83, 3) := by decide +kernel
theorem f_181_30 : decode (mB 181) 30 = .ok (.aload_n 0, 1) := by decide +kernel
theorem f_181_31 : decode (mB 181) 31 = .ok (.iload_n 1, 1) := by decide +kernel
theorem f_181_32 : decode (mB 181) 32 = .ok (.iconst 5, 1) := by decide +kernel
theorem f_181_33 : decode (mB 181) 33 = .ok (.iload_n 3, 1) := by decide +kernel
theorem f_181_34 : decode (mB 181) 34 = .ok (.ifCond .eq 7, 3) := by decide +kernel
theorem f_181_37 : decode (mB 181) 37 = .ok (.iconst 1, 1) := by decide +kernel
theorem f_181_38 : decode (mB 181) 38 = .ok (.goto 4, 3) := by decide +kernel
theorem f_181_41 : decode (mB 181) 41 = .ok (.iconst 0, 1) := by decide +kernel
theorem f_181_42 : decode (mB 181) 42 = .ok (.invokevirtual 83, 3) := by decide +kernel
theorem f_181_45 : decode (mB 181) 45 = .ok (.iconst 1, 1) := by decide +kernel
theorem f_181_46 : decode (mB 181) 46 = .ok (.ireturn, 1) := by decide +kernel
theorem f_182_0 : decode (mB 182) 0 = .ok (.iload_n 1, 1) := by decide +kernel
theorem f_182_1 : decode (mB 182) 1 = .ok (.iconst 0, 1) := by decide +kernel
theorem f_182_2 : decode (mB 182) 2 = .ok (.aload_n 0, 1) := by decide +kernel
theorem f_182_3 : decode (mB 182) 3 = .ok (.getfield 7, 3) := by decide +kernel
theorem f_182_6 : decode (mB 182) 6 = .ok (.iconst 0, 1) := by decide +kernel
theorem f_182_7 : decode (mB 182) 7 = .ok (.iaload, 1) := by decide +kernel
theorem f_182_8 : decode (mB 182) 8 = .ok (.iconst 1, 1) := by decide +kernel
theorem f_182_9 : decode (mB 182) 9 = .ok (.isub, 1) := by decide +kernel
theorem f_182_10 : decode (mB 182) 10 = .ok (.invokestatic 69, 3) := by decide +kernel
theorem f_182_13 : decode (mB 182) 13 = .ok (.ireturn, 1) := by decide +kernel
theorem f_183_0 : decode (mB 183) 0 = .ok (.aload_n 0, 1) := by decide +kernel
theorem f_183_1 : decode (mB 183) 1 = .ok (.iload_n 1, 1) := by decide +kernel
theorem f_183_2 : decode (mB 183) 2 = .ok (.invokevirtual 87, 3) := by decide +kernel
theorem f_183_5 : decode (mB 183) 5 = .ok (.ifCond .eq 13, 3) := by decide +kernel
theorem f_183_8 : decode (mB 183) 8 = .ok (.iload_n 2, 1) := by decide +kernel
theorem f_183_9 : decode (mB 183) 9 = .ok (.iconst 0, 1) := by decide +kernel
theorem f_183_10 : decode (mB 183) 10 = .ok (.bipush 50, 2) := by decide +kernel
theorem f_183_12 : decode (mB 183) 12 = .ok (.invokestatic 69, 3) := by decide +kernel
theorem f_183_15 : decode (mB 183) 15 = .ok (.ifCond .ne 10, 3) := by decide +kernel
theorem f_183_18 : decode (mB 183) 18 = .ok (.aload_n 0, 1) := by decide +kernel
theorem f_183_19 : decode (mB 183) 19 = .ok (.ldc 77, 2) := by decide +kernel
theorem f_183_21 : decode (mB 183) 21 = .ok (.invokevirtual 78, 3) := by decide +kernel
theorem f_183_24 : decode (mB 183) 24 = .ok (.ireturn, 1) := by decide +kernel
theorem f_183_25 : decode (mB 183) 25 = .ok (.aload_n 0, 1) := by decide +kernel
theorem f_183_26 : decode (mB 183) 26 = .ok (.iload_n 1, 1) := by decide +kernel
theorem f_183_27 : decode (mB 183) 27 = .ok (.bipush 7, 2) := by decide +kernel
theorem f_183_29 : decode (mB 183) 29 = .ok (.invokevirtual 73, 3) := by decide +kernel
theorem f_183_32 : decode (mB 183) 32 = .ok (.istore_n 3, 1) := by decide +kernel
theorem f_183_33 : decode (mB 183) 33 = .ok (.aload_n 0, 1) := by decide +kernel
theorem f_183_34 : decode (mB 183) 34 = .ok (.iload_n 1, 1) := by decide +kernel
theorem f_183_35 : decode (mB 183) 35 = .ok (.bipush 7, 2) := by decide +kernel
theorem f_183_37 : decode (mB 183) 37 = .ok (.iload_n 2, 1) := by decide +kernel
theorem f_183_38 : decode (mB 183) 38 = .ok (.invokevirtual 83, 3) := by decide +kernel
theorem f_183_41 : decode (mB 183) 41 = .ok (.iload_n 3, 1) := by decide +kernel
theorem f_183_42 : decode (mB 183) 42 = .ok (.ireturn, 1) := by decide +kernel
theorem f_184_0 : decode (mB 184) 0 = .ok (.aload_n 0, 1) := by decide +kernel
theorem f_184_1 : decode (mB 184) 1 = .ok (.getfield 7, 3) := by decide +kernel
theorem f_184_4 : decode (mB 184) 4 = .ok (.bipush 10, 2) := by decide +kernel
theorem f_184_6 : decode (mB 184) 6 = .ok (.bipush 10, 2) := by decide +kernel
theorem f_184_8 : decode (mB 184) 8 = .ok (.iload_n 1, 1) := by decide +kernel
theorem f_184_9 : decode (mB 184) 9 = .ok (.imul, 1) := by decide +kernel
theorem f_184_10 : decode (mB 184) 10 = .ok (.iadd, 1) := by decide +kernel
theorem f_184_11 : decode (mB 184) 11 = .ok (.iload_n 2, 1) := by decide +kernel
theorem f_184_12 : decode (mB 184) 12 = .ok (.iadd, 1) := by decide +kernel
theorem f_184_13 : decode (mB 184) 13 = .ok (.iaload, 1) := by decide +kernel
theorem f_184_14 : decode (mB 184) 14 = .ok (.ireturn, 1) := by decide +kernel
theorem f_185_0 : decode (mB 185) 0 = .ok (.aload_n 0, 1) := by decide +kernel
theorem f_185_1 : decode (mB 185) 1 = .ok (.iload_n 1, 1) := by decide +kernel
theorem f_185_2 : decode (mB 185) 2 = .ok (.invokevirtual 87, 3) := by decide +kernel
theorem f_185_5 : decode (mB 185) 5 = .ok (.ifCond .ne 10, 3) := by decide +kernel
theorem f_185_8 : decode (mB 185) 8 = .ok (.aload_n 0, 1) := by decide +kernel
theorem f_185_9 : decode (mB 185) 9 = .ok (.ldc 77, 2) := by decide +kernel
theorem f_185_11 : decode (mB 185) 11 = .ok (.invokevirtual 78, 3) := by decide +kernel
theorem f_185_14 : decode (mB 185) 14 = .ok (.ireturn, 1) := by decide +kernel
theorem f_185_15 : decode (mB 185) 15 = .ok (.aload_n 0, 1) := by decide +kernel
theorem f_185_16 : decode (mB 185) 16 = .ok (.iload_n 1, 1) := by decide +kernel
theorem f_185_17 : decode (mB 185) 17 = .ok (.invokevirtual 91, 3) := by decide +kernel
theorem f_185_20 : decode (mB 185) 20 = .ok (.ifCond .ne 10, 3) := by decide +kernel
theorem f_185_23 : decode (mB 185) 23 = .ok (.aload_n 0, 1) := by decide +kernel
theorem f_185_24 : decode (mB 185) 24 = .ok (.ldc 94, 2) := by decide +kernel
theorem f_185_26 : decode (mB 185) 26 = .ok (.invokevirtual 78, 3) := by decide +kernel
theorem f_185_29 : decode (mB 185) 29 = .ok (.ireturn, 1) := by decide +kernel
theorem f_185_30 : decode (mB 185) 30 = .ok (.aload_n 0, 1) := by decide +kernel
theorem f_185_31 : decode (mB 185) 31 = .ok (.iload_n 1, 1) := by decide +kernel
theorem f_185_32 : decode (mB 185) 32 = .ok (.bipush 6, 2) := by decide +kernel
theorem f_185_34 : decode (mB 185) 34 = .ok (.invokevirtual 73, 3) := by decide +kernel
theorem f_185_37 : decode (mB 185) 37 = .ok (.istore_n 2, 1) := by decide +kernel
theorem f_185_38 : decode (mB 185) 38 = .ok (.aload_n 0, 1) := by decide +kernel
theorem f_185_39 : decode (mB 185) 39 = .ok (.iload_n 1, 1) := by decide +kernel
theorem f_185_40 : decode (mB 185) 40 = .ok (.bipush 6, 2) := by decide +kernel
theorem f_185_42 : decode (mB 185) 42 = .ok (.iconst 0, 1) := by decide +kernel
theorem f_185_43 : decode (mB 185) 43 = .ok (.invokevirtual 83, 3) := by decide +kernel
theorem f_185_46 : decode (mB 185) 46 = .ok (.aload_n 0, 1) := by decide +kernel
theorem f_185_47 : decode (mB 185) 47 = .ok (.iload_n 1, 1) := by decide +kernel
theorem f_185_48 : decode (mB 185) 48 = .ok (.iconst 3, 1) := by decide +kernel
theorem f_185_49 : decode (mB 185) 49 = .ok (.aload_n 0, 1) := by decide +kernel
theorem f_185_50 : decode (mB 185) 50 = .ok (.getfield 7, 3) := by decide +kernel
theorem f_185_53 : decode (mB 185) 53 = .ok (.iconst 3, 1) := by decide +kernel
theorem f_185_54 : decode (mB 185) 54 = .ok (.iaload, 1) := by decide +kernel
theorem f_185_55 : decode (mB 185) 55 = .ok (.invokevirtual 83, 3) := by decide +kernel
theorem f_185_58 : decode (mB 185) 58 = .ok (.aload_n 0, 1) := by decide +kernel
theorem f_185_59 : decode (mB 185) 59 = .ok (.getfield 7, 3) := by decide +kernel
theorem f_185_62 : decode (mB 185) 62 = .ok (.bipush 6, 2) := by decide +kernel
theorem f_185_64 : decode (mB 185) 64 = .ok (.dup2, 1) := by decide +kernel
theorem f_185_65 : decode (mB 185) 65 = .ok (.iaload, 1) := by decide +kernel
theorem f_185_66 : decode (mB 185) 66 = .ok (.iload_n 2, 1) := by decide +kernel
theorem f_185_67 : decode (mB 185) 67 = .ok (.iadd, 1) := by decide +kernel
theorem f_185_68 : decode (mB 185) 68 = .ok (.iastore, 1) := by decide +kernel
theorem f_185_69 : decode (mB 185) 69 = .ok (.iload_n 2, 1) := by decide +kernel
theorem f_185_70 : decode (mB 185) 70 = .ok (.ireturn, 1) := by decide +kernel
theorem f_186_0 : decode (mB 186) 0 = .ok (.aload_n 0, 1) := by decide +kernel
theorem f_186_1 : decode (mB 186) 1 = .ok (.iload_n 1, 1) := by decide +kernel
theorem f_186_2 : decode (mB 186) 2 = .ok (.iconst 3, 1) := by decide +kernel
theorem f_186_3 : decode (mB 186) 3 = .ok (.invokevirtual 73, 3) := by decide +kernel
theorem f_186_6 : decode (mB 186) 6 = .ok (.ifCond .ge 7, 3) := by decide +kernel
theorem f_186_9 : decode (mB 186) 9 = .ok (.iconst 1, 1) := by decide +kernel
theorem f_186_10 : decode (mB 186) 10 = .ok (.goto 4, 3) := by decide +kernel
theorem f_186_13 : decode (mB 186) 13 = .ok (.iconst 0, 1) := by decide +kernel
theorem f_186_14 : decode (mB 186) 14 = .ok (.ireturn, 1) := by decide +kernel
theorem f_187_0 : decode (mB 187) 0 = .ok (.aload_n 0, 1) := by decide +kernel
theorem f_187_1 : decode (mB 187) 1 = .ok (.iload_n 1, 1) := by decide +kernel
theorem f_187_2 : decode (mB 187) 2 = .ok (.invokevirtual 87, 3) := by decide +kernel
theorem f_187_5 : decode (mB 187) 5 = .ok (.ifCond .ne 10, 3) := by decide +kernel
theorem f_187_8 : decode (mB 187) 8 = .ok (.aload_n 0, 1) := by decide +kernel
theorem f_187_9 : decode (mB 187) 9 = .ok (.ldc 77, 2) := by decide +kernel
theorem f_187_11 : decode (mB 187) 11 = .ok (.invokevirtual 78, 3) := by decide +kernel
theorem f_187_14 : decode (mB 187) 14 = .ok (.ireturn, 1) := by decide +kernel
theorem f_187_15 : decode (mB 187) 15 = .ok (.iload_n 2, 1) := by decide +kernel
theorem f_187_16 : decode (mB 187) 16 = .ok (.tableswitch 147 0 7 #[48, 55, 62, 70, 78, 85, 93, 101], 48) := by decide +kernel
theorem f_187_64 : decode (mB 187) 64 = .ok (.aload_n 0, 1) := by decide +kernel
theorem f_187_65 : decode (mB 187) 65 = .ok (.iload_n 1, 1) := by decide +kernel
theorem f_187_66 : decode (mB 187) 66 = .ok (.iconst 0, 1) := by decide +kernel
theorem f_187_67 : decode (mB 187) 67 = .ok (.invokevirtual 73, 3) := by decide +kernel
theorem f_187_70 : decode (mB 187) 70 = .ok (.ireturn, 1) := by decide +kernel
theorem f_187_71 : decode (mB 187) 71 = .ok (.aload_n 0, 1) := by decide +kernel
theorem f_187_72 : decode (mB 187) 72 = .ok (.iload_n 1, 1) := by decide +kernel
theorem f_187_73 : decode (mB 187) 73 = .ok (.iconst 3, 1) := by decide +kernel
theorem f_187_74 : decode (mB 187) 74 = .ok (.invokevirtual 73, 3) := by decide +kernel
theorem f_187_77 : decode (mB 187) 77 = .ok (.ireturn, 1) := by decide +kernel
theorem f_187_78 : decode (mB 187) 78 = .ok (.aload_n 0, 1) := by decide +kernel
theorem f_187_79 : decode (mB 187) 79 = .ok (.iload_n 1, 1) := by decide +kernel
theorem f_187_80 : decode (mB 187) 80 = .ok (.bipush 6, 2) := by decide +kernel
theorem f_187_82 : decode (mB 187) 82 = .ok (.invokevirtual 73, 3) := by decide +kernel
theorem f_187_85 : decode (mB 187) 85 = .ok (.ireturn, 1) := by decide +kernel
theorem f_187_86 : decode (mB 187) 86 = .ok (.aload_n 0, 1) := by decide +kernel
theorem f_187_87 : decode (mB 187) 87 = .ok (.iload_n 1, 1) := by decide +kernel
theorem f_187_88 : decode (mB 187) 88 = .ok (.bipush 8, 2) := by decide +kernel
theorem f_187_90 : decode (mB 187) 90 = .ok (.invokevirtual 73, 3) := by decide +kernel
theorem f_187_93 : decode (mB 187) 93 = .ok (.ireturn, 1) := by decide +kernel
theorem f_187_94 : decode (mB 187) 94 = .ok (.aload_n 0, 1) := by decide +kernel
theorem f_187_95 : decode (mB 187) 95 = .ok (.iload_n 1, 1) := by decide +kernel
theorem f_187_96 : decode (mB 187) 96 = .ok (.iconst (-1), 1) := by decide +kernel
theorem f_187_97 : decode (mB 187) 97 = .ok (.invokevirtual 104, 3) := by decide +kernel
theorem f_187_100 : decode (mB 187) 100 = .ok (.ireturn, 1) := by decide +kernel
theorem f_187_101 : decode (mB 187) 101 = .ok (.aload_n 0, 1) := by decide +kernel
theorem f_187_102 : decode (mB 187) 102 = .ok (.iload_n 1, 1) := by decide +kernel
theorem f_187_103 : decode (mB 187) 103 = .ok (.iconst (-1), 1) := by decide +kernel
theorem f_187_104 : decode (mB 187) 104 = .ok (.iconst 0, 1) := by decide +kernel
theorem f_187_105 : decode (mB 187) 105 = .ok (.invokevirtual 107, 3) := by decide +kernel
theorem f_187_108 : decode (mB 187) 108 = .ok (.ireturn, 1) := by decide +kernel
theorem f_187_109 : decode (mB 187) 109 = .ok (.aload_n 0, 1) := by decide +kernel
theorem f_187_110 : decode (mB 187) 110 = .ok (.iload_n 1, 1) := by decide +kernel
theorem f_187_111 : decode (mB 187) 111 = .ok (.bipush 9, 2) := by decide +kernel
theorem f_187_113 : decode (mB 187) 113 = .ok (.invokevirtual 73, 3) := by decide +kernel
theorem f_187_116 : decode (mB 187) 116 = .ok (.ireturn, 1) := by decide +kernel
theorem f_187_117 : decode (mB 187) 117 = .ok (.iconst 0, 1) := by decide +kernel
theorem f_187_118 : decode (mB 187) 118 = .ok (.istore_n 3, 1) := by decide +kernel
theorem f_187_119 : decode (mB 187) 119 = .ok (.iconst 0, 1) := by decide +kernel
theorem f_187_120 : decode (mB 187) 120 = .ok (.istore 4, 2) := by decide +kernel
theorem f_187_122 : decode (mB 187) 122 = .ok (.iload 4, 2) := by decide +kernel
theorem f_187_124 : decode (mB 187) 124 = .ok (.aload_n 0, 1) := by decide +kernel
theorem f_187_125 : decode (mB 187) 125 = .ok (.getfield 7, 3) := by decide +kernel
theorem f_187_128 : decode (mB 187) 128 = .ok (.iconst 1, 1) := by decide +kernel
theorem f_187_129 : decode (mB 187) 129 = .ok (.iaload, 1) := by decide +kernel
theorem f_187_130 : decode (mB 187) 130 = .ok (.if_icmp .ge 31, 3) := by decide +kernel
theorem f_187_133 : decode (mB 187) 133 = .ok (.iload_n 3, 1) := by decide +kernel
theorem f_187_134 : decode (mB 187) 134 = .ok (.aload_n 0, 1) := by decide +kernel
theorem f_187_135 : decode (mB 187) 135 = .ok (.iload 4, 2) := by decide +kernel
theorem f_187_137 : decode (mB 187) 137 = .ok (.iconst 2, 1) := by decide +kernel
theorem f_187_138 : decode (mB 187) 138 = .ok (.invokevirtual 111, 3) := by decide +kernel
theorem f_187_141 : decode (mB 187) 141 = .ok (.iload_n 1, 1) := by decide +kernel
theorem f_187_142 : decode (mB 187) 142 = .ok (.if_icmp .ne 10, 3) := by decide +kernel
theorem f_187_145 : decode (mB 187) 145 = .ok (.iconst 1, 1) := by decide +kernel
theorem f_187_146 : decode (mB 187) 146 = .ok (.iload 4, 2) := by decide +kernel
theorem f_187_148 : decode (mB 187) 148 = .ok (.ishl, 1) := by decide +kernel
theorem f_187_149 : decode (mB 187) 149 = .ok (.goto 4, 3) := by decide +kernel
theorem f_187_152 : decode (mB 187) 152 = .ok (.iconst 0, 1) := by decide +kernel
theorem f_187_153 : decode (mB 187) 153 = .ok (.ior, 1) := by decide +kernel
theorem f_187_154 : decode (mB 187) 154 = .ok (.istore_n 3, 1) := by decide +kernel
theorem f_187_155 : decode (mB 187) 155 = .ok (.iinc 4 1, 3) := by decide +kernel
theorem f_187_158 : decode (mB 187) 158 = .ok (.goto (-36), 3) := by decide +kernel
theorem f_187_161 : decode (mB 187) 161 = .ok (.iload_n 3, 1) := by decide +kernel
theorem f_187_162 : decode (mB 187) 162 = .ok (.ireturn, 1) := by decide +kernel
theorem f_187_163 : decode (mB 187) 163 = .ok (.aload_n 0, 1) := by decide +kernel
theorem f_187_164 : decode (mB 187) 164 = .ok (.ldc 77, 2) := by decide +kernel
theorem f_187_166 : decode (mB 187) 166 = .ok (.invokevirtual 78, 3) := by decide +kernel
theorem f_187_169 : decode (mB 187) 169 = .ok (.ireturn, 1) := by decide +kernel
theorem f_188_0 : decode (mB 188) 0 = .ok (.iconst 0, 1) := by decide +kernel
theorem f_188_1 : decode (mB 188) 1 = .ok (.istore_n 3, 1) := by decide +kernel
theorem f_188_2 : decode (mB 188) 2 = .ok (.iconst 0, 1) := by decide +kernel
theorem f_188_3 : decode (mB 188) 3 = .ok (.istore 4, 2) := by decide +kernel
theorem f_188_5 : decode (mB 188) 5 = .ok (.iload 4, 2) := by decide +kernel
theorem f_188_7 : decode (mB 188) 7 = .ok (.aload_n 0, 1) := by decide +kernel
theorem f_188_8 : decode (mB 188) 8 = .ok (.getfield 7, 3) := by decide +kernel
theorem f_188_11 : decode (mB 188) 11 = .ok (.iconst 2, 1) := by decide +kernel
theorem f_188_12 : decode (mB 188) 12 = .ok (.iaload, 1) := by decide +kernel
theorem f_188_13 : decode (mB 188) 13 = .ok (.if_icmp .ge 48, 3) := by decide +kernel
theorem f_188_16 : decode (mB 188) 16 = .ok (.iload_n 3, 1) := by decide +kernel
theorem f_188_17 : decode (mB 188) 17 = .ok (.iload 4, 2) := by decide +kernel
theorem f_188_19 : decode (mB 188) 19 = .ok (.iload_n 2, 1) := by decide +kernel
theorem f_188_20 : decode (mB 188) 20 = .ok (.if_icmp .eq 32, 3) := by decide +kernel
theorem f_188_23 : decode (mB 188) 23 = .ok (.aload_n 0, 1) := by decide +kernel
theorem f_188_24 : decode (mB 188) 24 = .ok (.iload 4, 2) := by decide +kernel
theorem f_188_26 : decode (mB 188) 26 = .ok (.invokevirtual 95, 3) := by decide +kernel
theorem f_188_29 : decode (mB 188) 29 = .ok (.ifCond .eq 23, 3) := by decide +kernel
theorem f_188_32 : decode (mB 188) 32 = .ok (.aload_n 0, 1) := by decide +kernel
theorem f_188_33 : decode (mB 188) 33 = .ok (.iload 4, 2) := by decide +kernel
theorem f_188_35 : decode (mB 188) 35 = .ok (.iconst 1, 1) := by decide +kernel
theorem f_188_36 : decode (mB 188) 36 = .ok (.invokevirtual 98, 3) := by decide +kernel
theorem f_188_39 : decode (mB 188) 39 = .ok (.iload_n 1, 1) := by decide +kernel
theorem f_188_40 : decode (mB 188) 40 = .ok (.if_icmp .ne 12, 3) := by decide +kernel
theorem f_188_43 : decode (mB 188) 43 = .ok (.aload_n 0, 1) := by decide +kernel
theorem f_188_44 : decode (mB 188) 44 = .ok (.iload 4, 2) := by decide +kernel
theorem f_188_46 : decode (mB 188) 46 = .ok (.invokevirtual 101, 3) := by decide +kernel
theorem f_188_49 : decode (mB 188) 49 = .ok (.goto 4, 3) := by decide +kernel
theorem f_188_52 : decode (mB 188) 52 = .ok (.iconst 0, 1) := by decide +kernel
theorem f_188_53 : decode (mB 188) 53 = .ok (.iadd, 1) := by decide +kernel
theorem f_188_54 : decode (mB 188) 54 = .ok (.istore_n 3, 1) := by decide +kernel
theorem f_188_55 : decode (mB 188) 55 = .ok (.iinc 4 1, 3) := by decide +kernel
theorem f_188_58 : decode (mB 188) 58 = .ok (.goto (-53), 3) := by decide +kernel
theorem f_188_61 : decode (mB 188) 61 = .ok (.iload_n 3, 1) := by decide +kernel
theorem f_188_62 : decode (mB 188) 62 = .ok (.ireturn, 1) := by decide +kernel
theorem f_189_0 : decode (mB 189) 0 = .ok (.aload_n 0, 1) := by decide +kernel
theorem f_189_1 : decode (mB 189) 1 = .ok (.iload_n 1, 1) := by decide +kernel
theorem f_189_2 : decode (mB 189) 2 = .ok (.bipush 9, 2) := by decide +kernel
theorem f_189_4 : decode (mB 189) 4 = .ok (.invokevirtual 98, 3) := by decide +kernel
theorem f_189_7 : decode (mB 189) 7 = .ok (.ifCond .ne 7, 3) := by decide +kernel
theorem f_189_10 : decode (mB 189) 10 = .ok (.iconst 1, 1) := by decide +kernel
theorem f_189_11 : decode (mB 189) 11 = .ok (.goto 4, 3) := by decide +kernel
theorem f_189_14 : decode (mB 189) 14 = .ok (.iconst 0, 1) := by decide +kernel
theorem f_189_15 : decode (mB 189) 15 = .ok (.ireturn, 1) := by decide +kernel
theorem f_190_0 : decode (mB 190) 0 = .ok (.aload_n 0, 1) := by decide +kernel
theorem f_190_1 : decode (mB 190) 1 = .ok (.getfield 7, 3) := by decide +kernel
theorem f_190_4 : decode (mB 190) 4 = .ok (.sipush 182, 3) := by decide +kernel
theorem f_190_7 : decode (mB 190) 7 = .ok (.bipush 10, 2) := by decide +kernel
theorem f_190_9 : decode (mB 190) 9 = .ok (.iload_n 1, 1) := by decide +kernel
theorem f_190_10 : decode (mB 190) 10 = .ok (.imul, 1) := by decide +kernel
theorem f_190_11 : decode (mB 190) 11 = .ok (.iadd, 1) := by decide +kernel
theorem f_190_12 : decode (mB 190) 12 = .ok (.iload_n 2, 1) := by decide +kernel
theorem f_190_13 : decode (mB 190) 13 = .ok (.iadd, 1) := by decide +kernel
theorem f_190_14 : decode (mB 190) 14 = .ok (.iaload, 1) := by decide +kernel
theorem f_190_15 : decode (mB 190) 15 = .ok (.ireturn, 1) := by decide +kernel
theorem f_191_0 : decode (mB 191) 0 = .ok (.aload_n 0, 1) := by decide +kernel
theorem f_191_1 : decode (mB 191) 1 = .ok (.iload_n 1, 1) := by decide +kernel
theorem f_191_2 : decode (mB 191) 2 = .ok (.iconst 3, 1) := by decide +kernel
theorem f_191_3 : decode (mB 191) 3 = .ok (.invokevirtual 98, 3) := by decide +kernel
theorem f_191_6 : decode (mB 191) 6 = .ok (.aload_n 0, 1) := by decide +kernel
theorem f_191_7 : decode (mB 191) 7 = .ok (.iload_n 1, 1) := by decide +kernel
theorem f_191_8 : decode (mB 191) 8 = .ok (.iconst 4, 1) := by decide +kernel
theorem f_191_9 : decode (mB 191) 9 = .ok (.invokevirtual 98, 3) := by decide +kernel
theorem f_191_12 : decode (mB 191) 12 = .ok (.isub, 1) := by decide +kernel
theorem f_191_13 : decode (mB 191) 13 = .ok (.ireturn, 1) := by decide +kernel
theorem f_192_0 : decode (mB 192) 0 = .ok (.iconst 0, 1) := by decide +kernel
theorem f_192_1 : decode (mB 192) 1 = .ok (.istore 4, 2) := by decide +kernel
theorem f_192_3 : decode (mB 192) 3 = .ok (.iconst 0, 1) := by decide +kernel
theorem f_192_4 : decode (mB 192) 4 = .ok (.istore 5, 2) := by decide +kernel
theorem f_192_6 : decode (mB 192) 6 = .ok (.iload 5, 2) := by decide +kernel
theorem f_192_8 : decode (mB 192) 8 = .ok (.aload_n 0, 1) := by decide +kernel
theorem f_192_9 : decode (mB 192) 9 = .ok (.getfield 7, 3) := by decide +kernel
theorem f_192_12 : decode (mB 192) 12 = .ok (.iconst 2, 1) := by decide +kernel
theorem f_192_13 : decode (mB 192) 13 = .ok (.iaload, 1) := by decide +kernel
theorem f_192_14 : decode (mB 192) 14 = .ok (.if_icmp .ge 64, 3) := by decide +kernel
theorem f_192_17 : decode (mB 192) 17 = .ok (.iload 4, 2) := by decide +kernel
theorem f_192_19 : decode (mB 192) 19 = .ok (.iload 5, 2) := by decide +kernel
theorem f_192_21 : decode (mB 192) 21 = .ok (.iload_n 2, 1) := by decide +kernel
theorem f_192_22 : decode (mB 192) 22 = .ok (.if_icmp .eq 46, 3) := by decide +kernel
theorem f_192_25 : decode (mB 192) 25 = .ok (.aload_n 0, 1) := by decide +kernel
theorem f_192_26 : decode (mB 192) 26 = .ok (.iload 5, 2) := by decide +kernel
theorem f_192_28 : decode (mB 192) 28 = .ok (.invokevirtual 95, 3) := by decide +kernel
theorem f_192_31 : decode (mB 192) 31 = .ok (.ifCond .eq 37, 3) := by decide +kernel
theorem f_192_34 : decode (mB 192) 34 = .ok (.aload_n 0, 1) := by decide +kernel
theorem f_192_35 : decode (mB 192) 35 = .ok (.iload 5, 2) := by decide +kernel
theorem f_192_37 : decode (mB 192) 37 = .ok (.iconst 2, 1) := by decide +kernel
theorem f_192_38 : decode (mB 192) 38 = .ok (.invokevirtual 98, 3) := by decide +kernel
theorem f_192_41 : decode (mB 192) 41 = .ok (.iload_n 1, 1) := by decide +kernel
theorem f_192_42 : decode (mB 192) 42 = .ok (.if_icmp .ne 26, 3) := by decide +kernel
theorem f_192_45 : decode (mB 192) 45 = .ok (.iload_n 3, 1) := by decide +kernel
theorem f_192_46 : decode (mB 192) 46 = .ok (.aload_n 0, 1) := by decide +kernel
theorem f_192_47 : decode (mB 192) 47 = .ok (.iload 5, 2) := by decide +kernel
theorem f_192_49 : decode (mB 192) 49 = .ok (.iconst 1, 1) := by decide +kernel
theorem f_192_50 : decode (mB 192) 50 = .ok (.invokevirtual 98, 3) := by decide +kernel
theorem f_192_53 : decode (mB 192) 53 = .ok (.ishr, 1) := by decide +kernel
theorem f_192_54 : decode (mB 192) 54 = .ok (.iconst 1, 1) := by decide +kernel
theorem f_192_55 : decode (mB 192) 55 = .ok (.iand, 1) := by decide +kernel
theorem f_192_56 : decode (mB 192) 56 = .ok (.ifCond .ne 12, 3) := by decide +kernel
theorem f_192_59 : decode (mB 192) 59 = .ok (.aload_n 0, 1) := by decide +kernel
theorem f_192_60 : decode (mB 192) 60 = .ok (.iload 5, 2) := by decide +kernel
theorem f_192_62 : decode (mB 192) 62 = .ok (.invokevirtual 101, 3) := by decide +kernel
theorem f_192_65 : decode (mB 192) 65 = .ok (.goto 4, 3) := by decide +kernel
theorem f_192_68 : decode (mB 192) 68 = .ok (.iconst 0, 1) := by decide +kernel
theorem f_192_69 : decode (mB 192) 69 = .ok (.iadd, 1) := by decide +kernel
theorem f_192_70 : decode (mB 192) 70 = .ok (.istore 4, 2) := by decide +kernel
theorem f_192_72 : decode (mB 192) 72 = .ok (.iinc 5 1, 3) := by decide +kernel
theorem f_192_75 : decode (mB 192) 75 = .ok (.goto (-69), 3) := by decide +kernel
theorem f_192_78 : decode (mB 192) 78 = .ok (.iload 4, 2) := by decide +kernel
theorem f_192_80 : decode (mB 192) 80 = .ok (.ireturn, 1) := by decide +kernel
theorem f_193_0 : decode (mB 193) 0 = .ok (.aload_n 0, 1) := by decide +kernel
theorem f_193_1 : decode (mB 193) 1 = .ok (.getfield 7, 3) := by decide +kernel
theorem f_193_4 : decode (mB 193) 4 = .ok (.sipush 150, 3) := by decide +kernel
theorem f_193_7 : decode (mB 193) 7 = .ok (.iconst 4, 1) := by decide +kernel
theorem f_193_8 : decode (mB 193) 8 = .ok (.iload_n 1, 1) := by decide +kernel
theorem f_193_9 : decode (mB 193) 9 = .ok (.imul, 1) := by decide +kernel
theorem f_193_10 : decode (mB 193) 10 = .ok (.iadd, 1) := by decide +kernel
theorem f_193_11 : decode (mB 193) 11 = .ok (.iload_n 2, 1) := by decide +kernel
theorem f_193_12 : decode (mB 193) 12 = .ok (.iadd, 1) := by decide +kernel
theorem f_193_13 : decode (mB 193) 13 = .ok (.iaload, 1) := by decide +kernel
theorem f_193_14 : decode (mB 193) 14 = .ok (.ireturn, 1) := by decide +kernel
theorem f_194_0 : decode (mB 194) 0 = .ok (.aload_n 0, 1) := by decide +kernel
theorem f_194_1 : decode (mB 194) 1 = .ok (.iload_n 1, 1) := by decide +kernel
theorem f_194_2 : decode (mB 194) 2 = .ok (.invokevirtual 87, 3) := by decide +kernel
theorem f_194_5 : decode (mB 194) 5 = .ok (.ifCond .eq 13, 3) := by decide +kernel
theorem f_194_8 : decode (mB 194) 8 = .ok (.iload_n 2, 1) := by decide +kernel
theorem f_194_9 : decode (mB 194) 9 = .ok (.iconst 1, 1) := by decide +kernel
theorem f_194_10 : decode (mB 194) 10 = .ok (.bipush 99, 2) := by decide +kernel
theorem f_194_12 : decode (mB 194) 12 = .ok (.invokestatic 69, 3) := by decide +kernel
theorem f_194_15 : decode (mB 194) 15 = .ok (.ifCond .ne 10, 3) := by decide +kernel
theorem f_194_18 : decode (mB 194) 18 = .ok (.aload_n 0, 1) := by decide +kernel
theorem f_194_19 : decode (mB 194) 19 = .ok (.ldc 77, 2) := by decide +kernel
theorem f_194_21 : decode (mB 194) 21 = .ok (.invokevirtual 78, 3) := by decide +kernel
theorem f_194_24 : decode (mB 194) 24 = .ok (.ireturn, 1) := by decide +kernel
theorem f_194_25 : decode (mB 194) 25 = .ok (.aload_n 0, 1) := by decide +kernel
theorem f_194_26 : decode (mB 194) 26 = .ok (.getfield 7, 3) := by decide +kernel
theorem f_194_29 : decode (mB 194) 29 = .ok (.iconst 1, 1) := by decide +kernel
theorem f_194_30 : decode (mB 194) 30 = .ok (.iaload, 1) := by decide +kernel
theorem f_194_31 : decode (mB 194) 31 = .ok (.istore 4, 2) := by decide +kernel
theorem f_194_33 : decode (mB 194) 33 = .ok (.iload 4, 2) := by decide +kernel
theorem f_194_35 : decode (mB 194) 35 = .ok (.bipush 8, 2) := by decide +kernel
theorem f_194_37 : decode (mB 194) 37 = .ok (.if_icmp .ne 10, 3) := by decide +kernel
theorem f_194_40 : decode (mB 194) 40 = .ok (.aload_n 0, 1) := by decide +kernel
theorem f_194_41 : decode (mB 194) 41 = .ok (.ldc 82, 2) := by decide +kernel
theorem f_194_43 : decode (mB 194) 43 = .ok (.invokevirtual 78, 3) := by decide +kernel
theorem f_194_46 : decode (mB 194) 46 = .ok (.ireturn, 1) := by decide +kernel
theorem f_194_47 : decode (mB 194) 47 = .ok (.aload_n 0, 1) := by decide +kernel
theorem f_194_48 : decode (mB 194) 48 = .ok (.getfield 7, 3) := by decide +kernel
theorem f_194_51 : decode (mB 194) 51 = .ok (.iconst 1, 1) := by decide +kernel
theorem f_194_52 : decode (mB 194) 52 = .ok (.dup2, 1) := by decide +kernel
theorem f_194_53 : decode (mB 194) 53 = .ok (.iaload, 1) := by decide +kernel
theorem f_194_54 : decode (mB 194) 54 = .ok (.iconst 1, 1) := by decide +kernel
theorem f_194_55 : decode (mB 194) 55 = .ok (.iadd, 1) := by decide +kernel
theorem f_194_56 : decode (mB 194) 56 = .ok (.iastore, 1) := by decide +kernel
theorem f_194_57 : decode (mB 194) 57 = .ok (.aload_n 0, 1) := by decide +kernel
theorem f_194_58 : decode (mB 194) 58 = .ok (.getfield 7, 3) := by decide +kernel
theorem f_194_61 : decode (mB 194) 61 = .ok (.sipush 150, 3) := by decide +kernel
theorem f_194_64 : decode (mB 194) 64 = .ok (.iconst 4, 1) := by decide +kernel
theorem f_194_65 : decode (mB 194) 65 = .ok (.iload 4, 2) := by decide +kernel
theorem f_194_67 : decode (mB 194) 67 = .ok (.imul, 1) := by decide +kernel
theorem f_194_68 : decode (mB 194) 68 = .ok (.iadd, 1) := by decide +kernel
theorem f_194_69 : decode (mB 194) 69 = .ok (.iload_n 2, 1) := by decide +kernel
theorem f_194_70 : decode (mB 194) 70 = .ok (.iastore, 1) := by decide +kernel
theorem f_194_71 : decode (mB 194) 71 = .ok (.aload_n 0, 1) := by decide +kernel
theorem f_194_72 : decode (mB 194) 72 = .ok (.getfield 7, 3) := by decide +kernel
theorem f_194_75 : decode (mB 194) 75 = .ok (.sipush 150, 3) := by decide +kernel
theorem f_194_78 : decode (mB 194) 78 = .ok (.iconst 4, 1) := by decide +kernel
theorem f_194_79 : decode (mB 194) 79 = .ok (.iload 4, 2) := by decide +kernel
theorem f_194_81 : decode (mB 194) 81 = .ok (.imul, 1) := by decide +kernel
theorem f_194_82 : decode (mB 194) 82 = .ok (.iadd, 1) := by decide +kernel
theorem f_194_83 : decode (mB 194) 83 = .ok (.iconst 1, 1) := by decide +kernel
theorem f_194_84 : decode (mB 194) 84 = .ok (.iadd, 1) := by decide +kernel
theorem f_194_85 : decode (mB 194) 85 = .ok (.iload_n 1, 1) := by decide +kernel
theorem f_194_86 : decode (mB 194) 86 = .ok (.iastore, 1) := by decide +kernel
theorem f_194_87 : decode (mB 194) 87 = .ok (.aload_n 0, 1) := by decide +kernel
theorem f_194_88 : decode (mB 194) 88 = .ok (.getfield 7, 3) := by decide +kernel
theorem f_194_91 : decode (mB 194) 91 = .ok (.sipush 150, 3) := by decide +kernel
theorem f_194_94 : decode (mB 194) 94 = .ok (.iconst 4, 1) := by decide +kernel
theorem f_194_95 : decode (mB 194) 95 = .ok (.iload 4, 2) := by decide +kernel
theorem f_194_97 : decode (mB 194) 97 = .ok (.imul, 1) := by decide +kernel
theorem f_194_98 : decode (mB 194) 98 = .ok (.iadd, 1) := by decide +kernel
theorem f_194_99 : decode (mB 194) 99 = .ok (.iconst 2, 1) := by decide +kernel
theorem f_194_100 : decode (mB 194) 100 = .ok (.iadd, 1) := by decide +kernel
theorem f_194_101 : decode (mB 194) 101 = .ok (.iload_n 1, 1) := by decide +kernel
theorem f_194_102 : decode (mB 194) 102 = .ok (.iastore, 1) := by decide +kernel
theorem f_194_103 : decode (mB 194) 103 = .ok (.aload_n 0, 1) := by decide +kernel
theorem f_194_104 : decode (mB 194) 104 = .ok (.getfield 7, 3) := by decide +kernel
theorem f_194_107 : decode (mB 194) 107 = .ok (.sipush 150, 3) := by decide +kernel
theorem f_194_110 : decode (mB 194) 110 = .ok (.iconst 4, 1) := by decide +kernel
theorem f_194_111 : decode (mB 194) 111 = .ok (.iload 4, 2) := by decide +kernel
theorem f_194_113 : decode (mB 194) 113 = .ok (.imul, 1) := by decide +kernel
theorem f_194_114 : decode (mB 194) 114 = .ok (.iadd, 1) := by decide +kernel
theorem f_194_115 : decode (mB 194) 115 = .ok (.iconst 3, 1) := by decide +kernel
theorem f_194_116 : decode (mB 194) 116 = .ok (.iadd, 1) := by decide +kernel
theorem f_194_117 : decode (mB 194) 117 = .ok (.iload_n 3, 1) := by decide +kernel
theorem f_194_118 : decode (mB 194) 118 = .ok (.ifCond .eq 7, 3) := by decide +kernel
theorem f_194_121 : decode (mB 194) 121 = .ok (.iconst 1, 1) := by decide +kernel
theorem f_194_122 : decode (mB 194) 122 = .ok (.goto 4, 3) := by decide +kernel
theorem f_194_125 : decode (mB 194) 125 = .ok (.iconst 0, 1) := by decide +kernel
theorem f_194_126 : decode (mB 194) 126 = .ok (.iastore, 1) := by decide +kernel
theorem f_194_127 : decode (mB 194) 127 = .ok (.iload 4, 2) := by decide +kernel
theorem f_194_129 : decode (mB 194) 129 = .ok (.ireturn, 1) := by decide +kernel
theorem f_195_0 : decode (mB 195) 0 = .ok (.aload_n 0, 1) := by decide +kernel
theorem f_195_1 : decode (mB 195) 1 = .ok (.iload_n 1, 1) := by decide +kernel
theorem f_195_2 : decode (mB 195) 2 = .ok (.invokevirtual 114, 3) := by decide +kernel
theorem f_195_5 : decode (mB 195) 5 = .ok (.ifCond .eq 21, 3) := by decide +kernel
theorem f_195_8 : decode (mB 195) 8 = .ok (.iload_n 2, 1) := by decide +kernel
theorem f_195_9 : decode (mB 195) 9 = .ok (.iconst 0, 1) := by decide +kernel
theorem f_195_10 : decode (mB 195) 10 = .ok (.iconst 3, 1) := by decide +kernel
theorem f_195_11 : decode (mB 195) 11 = .ok (.invokestatic 69, 3) := by decide +kernel
theorem f_195_14 : decode (mB 195) 14 = .ok (.ifCond .eq 12, 3) := by decide +kernel
theorem f_195_17 : decode (mB 195) 17 = .ok (.aload_n 0, 1) := by decide +kernel
theorem f_195_18 : decode (mB 195) 18 = .ok (.iload_n 1, 1) := by decide +kernel
theorem f_195_19 : decode (mB 195) 19 = .ok (.iload_n 2, 1) := by decide +kernel
theorem f_195_20 : decode (mB 195) 20 = .ok (.invokevirtual 111, 3) := by decide +kernel
theorem f_195_23 : decode (mB 195) 23 = .ok (.goto 9, 3) := by decide +kernel
theorem f_195_26 : decode (mB 195) 26 = .ok (.aload_n 0, 1) := by decide +kernel
theorem f_195_27 : decode (mB 195) 27 = .ok (.ldc 77, 2) := by decide +kernel
theorem f_195_29 : decode (mB 195) 29 = .ok (.invokevirtual 78, 3) := by decide +kernel
theorem f_195_32 : decode (mB 195) 32 = .ok (.ireturn, 1) := by decide +kernel
theorem f_196_0 : decode (mB 196) 0 = .ok (.iload_n 1, 1) := by decide +kernel
theorem f_196_1 : decode (mB 196) 1 = .ok (.iconst 0, 1) := by decide +kernel
theorem f_196_2 : decode (mB 196) 2 = .ok (.aload_n 0, 1) := by decide +kernel
theorem f_196_3 : decode (mB 196) 3 = .ok (.getfield 7, 3) := by decide +kernel
theorem f_196_6 : decode (mB 196) 6 = .ok (.iconst 1, 1) := by decide +kernel
theorem f_196_7 : decode (mB 196) 7 = .ok (.iaload, 1) := by decide +kernel
theorem f_196_8 : decode (mB 196) 8 = .ok (.iconst 1, 1) := by decide +kernel
theorem f_196_9 : decode (mB 196) 9 = .ok (.isub, 1) := by decide +kernel
theorem f_196_10 : decode (mB 196) 10 = .ok (.invokestatic 69, 3) := by decide +kernel
theorem f_196_13 : decode (mB 196) 13 = .ok (.ireturn, 1) := by decide +kernel
theorem f_197_0 : decode (mB 197) 0 = .ok (.aload_n 0, 1) := by decide +kernel
theorem f_197_1 : decode (mB 197) 1 = .ok (.iload_n 1, 1) := by decide +kernel
theorem f_197_2 : decode (mB 197) 2 = .ok (.invokevirtual 87, 3) := by decide +kernel
theorem f_197_5 : decode (mB 197) 5 = .ok (.ifCond .eq 11, 3) := by decide +kernel
theorem f_197_8 : decode (mB 197) 8 = .ok (.aload_n 0, 1) := by decide +kernel
theorem f_197_9 : decode (mB 197) 9 = .ok (.iload_n 1, 1) := by decide +kernel
theorem f_197_10 : decode (mB 197) 10 = .ok (.invokevirtual 128, 3) := by decide +kernel
theorem f_197_13 : decode (mB 197) 13 = .ok (.goto 9, 3) := by decide +kernel
theorem f_197_16 : decode (mB 197) 16 = .ok (.aload_n 0, 1) := by decide +kernel
theorem f_197_17 : decode (mB 197) 17 = .ok (.ldc 77, 2) := by decide +kernel
theorem f_197_19 : decode (mB 197) 19 = .ok (.invokevirtual 78, 3) := by decide +kernel
theorem f_197_22 : decode (mB 197) 22 = .ok (.ireturn, 1) := by decide +kernel
theorem f_198_0 : decode (mB 198) 0 = .ok (.aload_n 0, 1) := by decide +kernel
theorem f_198_1 : decode (mB 198) 1 = .ok (.iload_n 1, 1) := by decide +kernel
theorem f_198_2 : decode (mB 198) 2 = .ok (.invokevirtual 121, 3) := by decide +kernel
theorem f_198_5 : decode (mB 198) 5 = .ok (.iconst 0, 1) := by decide +kernel
theorem f_198_6 : decode (mB 198) 6 = .ok (.istore_n 2, 1) := by decide +kernel
theorem f_198_7 : decode (mB 198) 7 = .ok (.iconst 0, 1) := by decide +kernel
theorem f_198_8 : decode (mB 198) 8 = .ok (.istore_n 3, 1) := by decide +kernel
theorem f_198_9 : decode (mB 198) 9 = .ok (.iload_n 3, 1) := by decide +kernel
theorem f_198_10 : decode (mB 198) 10 = .ok (.aload_n 0, 1) := by decide +kernel
theorem f_198_11 : decode (mB 198) 11 = .ok (.getfield 7, 3) := by decide +kernel
theorem f_198_14 : decode (mB 198) 14 = .ok (.iconst 0, 1) := by decide +kernel
theorem f_198_15 : decode (mB 198) 15 = .ok (.iaload, 1) := by decide +kernel
theorem f_198_16 : decode (mB 198) 16 = .ok (.if_icmp .ge 27, 3) := by decide +kernel
theorem f_198_19 : decode (mB 198) 19 = .ok (.iload_n 2, 1) := by decide +kernel
theorem f_198_20 : decode (mB 198) 20 = .ok (.aload_n 0, 1) := by decide +kernel
theorem f_198_21 : decode (mB 198) 21 = .ok (.iload_n 3, 1) := by decide +kernel
theorem f_198_22 : decode (mB 198) 22 = .ok (.invokevirtual 125, 3) := by decide +kernel
theorem f_198_25 : decode (mB 198) 25 = .ok (.ifCond .le 9, 3) := by decide +kernel
theorem f_198_28 : decode (mB 198) 28 = .ok (.iconst 1, 1) := by decide +kernel
theorem f_198_29 : decode (mB 198) 29 = .ok (.iload_n 3, 1) := by decide +kernel
theorem f_198_30 : decode (mB 198) 30 = .ok (.ishl, 1) := by decide +kernel
theorem f_198_31 : decode (mB 198) 31 = .ok (.goto 4, 3) := by decide +kernel
theorem f_198_34 : decode (mB 198) 34 = .ok (.iconst 0, 1) := by decide +kernel
theorem f_198_35 : decode (mB 198) 35 = .ok (.ior, 1) := by decide +kernel
theorem f_198_36 : decode (mB 198) 36 = .ok (.istore_n 2, 1) := by decide +kernel
theorem f_198_37 : decode (mB 198) 37 = .ok (.iinc 3 1, 3) := by decide +kernel
theorem f_198_40 : decode (mB 198) 40 = .ok (.goto (-31), 3) := by decide +kernel
theorem f_198_43 : decode (mB 198) 43 = .ok (.iload_n 2, 1) := by decide +kernel
theorem f_198_44 : decode (mB 198) 44 = .ok (.ireturn, 1) := by decide +kernel
theorem f_199_0 : decode (mB 199) 0 = .ok (.iconst 5, 1) := by decide +kernel
theorem f_199_1 : decode (mB 199) 1 = .ok (.istore_n 2, 1) := by decide +kernel
theorem f_199_2 : decode (mB 199) 2 = .ok (.iload_n 2, 1) := by decide +kernel
theorem f_199_3 : decode (mB 199) 3 = .ok (.ifCond .lt 149, 3) := by decide +kernel
theorem f_199_6 : decode (mB 199) 6 = .ok (.iconst 0, 1) := by decide +kernel
theorem f_199_7 : decode (mB 199) 7 = .ok (.istore_n 3, 1) := by decide +kernel
theorem f_199_8 : decode (mB 199) 8 = .ok (.iload_n 3, 1) := by decide +kernel
theorem f_199_9 : decode (mB 199) 9 = .ok (.aload_n 0, 1) := by decide +kernel
theorem f_199_10 : decode (mB 199) 10 = .ok (.getfield 7, 3) := by decide +kernel
theorem f_199_13 : decode (mB 199) 13 = .ok (.iconst 0, 1) := by decide +kernel
theorem f_199_14 : decode (mB 199) 14 = .ok (.iaload, 1) := by decide +kernel
theorem f_199_15 : decode (mB 199) 15 = .ok (.if_icmp .ge 131, 3) := by decide +kernel
theorem f_199_18 : decode (mB 199) 18 = .ok (.iconst 0, 1) := by decide +kernel
theorem f_199_19 : decode (mB 199) 19 = .ok (.istore 4, 2) := by decide +kernel
theorem f_199_21 : decode (mB 199) 21 = .ok (.iload_n 3, 1) := by decide +kernel
theorem f_199_22 : decode (mB 199) 22 = .ok (.iconst 1, 1) := by decide +kernel
theorem f_199_23 : decode (mB 199) 23 = .ok (.iadd, 1) := by decide +kernel
theorem f_199_24 : decode (mB 199) 24 = .ok (.istore 5, 2) := by decide +kernel
theorem f_199_26 : decode (mB 199) 26 = .ok (.iload 5, 2) := by decide +kernel
theorem f_199_28 : decode (mB 199) 28 = .ok (.aload_n 0, 1) := by decide +kernel
theorem f_199_29 : decode (mB 199) 29 = .ok (.getfield 7, 3) := by decide +kernel
theorem f_199_32 : decode (mB 199) 32 = .ok (.iconst 0, 1) := by decide +kernel
theorem f_199_33 : decode (mB 199) 33 = .ok (.iaload, 1) := by decide +kernel
theorem f_199_34 : decode (mB 199) 34 = .ok (.if_icmp .ge 52, 3) := by decide +kernel
theorem f_199_37 : decode (mB 199) 37 = .ok (.iload_n 2, 1) := by decide +kernel
theorem f_199_38 : decode (mB 199) 38 = .ok (.iconst 5, 1) := by decide +kernel
theorem f_199_39 : decode (mB 199) 39 = .ok (.if_icmp .ge 47, 3) := by decide +kernel
theorem f_199_42 : decode (mB 199) 42 = .ok (.iload 4, 2) := by decide +kernel
theorem f_199_44 : decode (mB 199) 44 = .ok (.aload_n 0, 1) := by decide +kernel
theorem f_199_45 : decode (mB 199) 45 = .ok (.iload 5, 2) := by decide +kernel
theorem f_199_47 : decode (mB 199) 47 = .ok (.iload_n 3, 1) := by decide +kernel
theorem f_199_48 : decode (mB 199) 48 = .ok (.invokevirtual 117, 3) := by decide +kernel
theorem f_199_51 : decode (mB 199) 51 = .ok (.ifCond .eq 25, 3) := by decide +kernel
theorem f_199_54 : decode (mB 199) 54 = .ok (.aload_n 0, 1) := by decide +kernel
theorem f_199_55 : decode (mB 199) 55 = .ok (.getfield 16, 3) := by decide +kernel
theorem f_199_58 : decode (mB 199) 58 = .ok (.bipush 14, 2) := by decide +kernel
theorem f_199_60 : decode (mB 199) 60 = .ok (.iload_n 2, 1) := by decide +kernel
theorem f_199_61 : decode (mB 199) 61 = .ok (.imul, 1) := by decide +kernel
theorem f_199_62 : decode (mB 199) 62 = .ok (.bipush 14, 2) := by decide +kernel
theorem f_199_64 : decode (mB 199) 64 = .ok (.iadd, 1) := by decide +kernel
theorem f_199_65 : decode (mB 199) 65 = .ok (.iload 5, 2) := by decide +kernel
theorem f_199_67 : decode (mB 199) 67 = .ok (.iadd, 1) := by decide +kernel
theorem f_199_68 : decode (mB 199) 68 = .ok (.baload, 1) := by decide +kernel
theorem f_199_69 : decode (mB 199) 69 = .ok (.ifCond .eq 7, 3) := by decide +kernel
theorem f_199_72 : decode (mB 199) 72 = .ok (.iconst 1, 1) := by decide +kernel
theorem f_199_73 : decode (mB 199) 73 = .ok (.goto 4, 3) := by decide +kernel
theorem f_199_76 : decode (mB 199) 76 = .ok (.iconst 0, 1) := by decide +kernel
theorem f_199_77 : decode (mB 199) 77 = .ok (.iadd, 1) := by decide +kernel
theorem f_199_78 : decode (mB 199) 78 = .ok (.istore 4, 2) := by decide +kernel
theorem f_199_80 : decode (mB 199) 80 = .ok (.iinc 5 1, 3) := by decide +kernel
theorem f_199_83 : decode (mB 199) 83 = .ok (.goto (-57), 3) := by decide +kernel
theorem f_199_86 : decode (mB 199) 86 = .ok (.aload_n 0, 1) := by decide +kernel
theorem f_199_87 : decode (mB 199) 87 = .ok (.getfield 20, 3) := by decide +kernel
theorem f_199_90 : decode (mB 199) 90 = .ok (.bipush 14, 2) := by decide +kernel
theorem f_199_92 : decode (mB 199) 92 = .ok (.iload_n 2, 1) := by decide +kernel
theorem f_199_93 : decode (mB 199) 93 = .ok (.imul, 1) := by decide +kernel
theorem f_199_94 : decode (mB 199) 94 = .ok (.iload_n 3, 1) := by decide +kernel
theorem f_199_95 : decode (mB 199) 95 = .ok (.iadd, 1) := by decide +kernel
theorem f_199_96 : decode (mB 199) 96 = .ok (.iload 4, 2) := by decide +kernel
theorem f_199_98 : decode (mB 199) 98 = .ok (.iastore, 1) := by decide +kernel
theorem f_199_99 : decode (mB 199) 99 = .ok (.aload_n 0, 1) := by decide +kernel
theorem f_199_100 : decode (mB 199) 100 = .ok (.getfield 16, 3) := by decide +kernel
theorem f_199_103 : decode (mB 199) 103 = .ok (.bipush 14, 2) := by decide +kernel
theorem f_199_105 : decode (mB 199) 105 = .ok (.iload_n 2, 1) := by decide +kernel
theorem f_199_106 : decode (mB 199) 106 = .ok (.imul, 1) := by decide +kernel
theorem f_199_107 : decode (mB 199) 107 = .ok (.iload_n 3, 1) := by decide +kernel
theorem f_199_108 : decode (mB 199) 108 = .ok (.iadd, 1) := by decide +kernel
theorem f_199_109 : decode (mB 199) 109 = .ok (.aload_n 0, 1) := by decide +kernel
theorem f_199_110 : decode (mB 199) 110 = .ok (.iload_n 3, 1) := by decide +kernel
theorem f_199_111 : decode (mB 199) 111 = .ok (.invokevirtual 91, 3) := by decide +kernel
theorem f_199_114 : decode (mB 199) 114 = .ok (.ifCond .ne 8, 3) := by decide +kernel
theorem f_199_117 : decode (mB 199) 117 = .ok (.iload 4, 2) := by decide +kernel
theorem f_199_119 : decode (mB 199) 119 = .ok (.ifCond .le 7, 3) := by decide +kernel
theorem f_199_122 : decode (mB 199) 122 = .ok (.iconst 1, 1) := by decide +kernel
theorem f_199_123 : decode (mB 199) 123 = .ok (.goto 4, 3) := by decide +kernel
theorem f_199_126 : decode (mB 199) 126 = .ok (.iconst 0, 1) := by decide +kernel
theorem f_199_127 : decode (mB 199) 127 = .ok (.bastore, 1) := by decide +kernel
theorem f_199_128 : decode (mB 199) 128 = .ok (.aload_n 0, 1) := by decide +kernel
theorem f_199_129 : decode (mB 199) 129 = .ok (.getfield 23, 3) := by decide +kernel
theorem f_199_132 : decode (mB 199) 132 = .ok (.bipush 14, 2) := by decide +kernel
theorem f_199_134 : decode (mB 199) 134 = .ok (.iload_n 2, 1) := by decide +kernel
theorem f_199_135 : decode (mB 199) 135 = .ok (.imul, 1) := by decide +kernel
theorem f_199_136 : decode (mB 199) 136 = .ok (.iload_n 3, 1) := by decide +kernel
theorem f_199_137 : decode (mB 199) 137 = .ok (.iadd, 1) := by decide +kernel
theorem f_199_138 : decode (mB 199) 138 = .ok (.iconst 0, 1) := by decide +kernel
theorem f_199_139 : decode (mB 199) 139 = .ok (.iastore, 1) := by decide +kernel
theorem f_199_140 : decode (mB 199) 140 = .ok (.iinc 3 1, 3) := by decide +kernel
theorem f_199_143 : decode (mB 199) 143 = .ok (.goto (-135), 3) := by decide +kernel
theorem f_199_146 : decode (mB 199) 146 = .ok (.iinc 2 (-1), 3) := by decide +kernel
theorem f_199_149 : decode (mB 199) 149 = .ok (.goto (-147), 3) := by decide +kernel
theorem f_199_152 : decode (mB 199) 152 = .ok (.aload_n 0, 1) := by decide +kernel
theorem f_199_153 : decode (mB 199) 153 = .ok (.getfield 23, 3) := by decide +kernel
theorem f_199_156 : decode (mB 199) 156 = .ok (.iload_n 1, 1) := by decide +kernel
theorem f_199_157 : decode (mB 199) 157 = .ok (.iconst 1, 1) := by decide +kernel
theorem f_199_158 : decode (mB 199) 158 = .ok (.iastore, 1) := by decide +kernel
theorem f_199_159 : decode (mB 199) 159 = .ok (.iconst 0, 1) := by decide +kernel
theorem f_199_160 : decode (mB 199) 160 = .ok (.istore_n 2, 1) := by decide +kernel
theorem f_199_161 : decode (mB 199) 161 = .ok (.iload_n 2, 1) := by decide +kernel
theorem f_199_162 : decode (mB 199) 162 = .ok (.iconst 5, 1) := by decide +kernel
theorem f_199_163 : decode (mB 199) 163 = .ok (.if_icmp .ge 153, 3) := by decide +kernel
theorem f_199_166 : decode (mB 199) 166 = .ok (.iconst 0, 1) := by decide +kernel
theorem f_199_167 : decode (mB 199) 167 = .ok (.istore_n 3, 1) := by decide +kernel
theorem f_199_168 : decode (mB 199) 168 = .ok (.iload_n 3, 1) := by decide +kernel
theorem f_199_169 : decode (mB 199) 169 = .ok (.aload_n 0, 1) := by decide +kernel
theorem f_199_170 : decode (mB 199) 170 = .ok (.getfield 7, 3) := by decide +kernel
theorem f_199_173 : decode (mB 199) 173 = .ok (.iconst 0, 1) := by decide +kernel
theorem f_199_174 : decode (mB 199) 174 = .ok (.iaload, 1) := by decide +kernel
theorem f_199_175 : decode (mB 199) 175 = .ok (.if_icmp .ge 135, 3) := by decide +kernel
theorem f_199_178 : decode (mB 199) 178 = .ok (.aload_n 0, 1) := by decide +kernel
theorem f_199_179 : decode (mB 199) 179 = .ok (.getfield 23, 3) := by decide +kernel
theorem f_199_182 : decode (mB 199) 182 = .ok (.bipush 14, 2) := by decide +kernel
theorem f_199_184 : decode (mB 199) 184 = .ok (.iload_n 2, 1) := by decide +kernel
theorem f_199_185 : decode (mB 199) 185 = .ok (.imul, 1) := by decide +kernel
theorem f_199_186 : decode (mB 199) 186 = .ok (.iload_n 3, 1) := by decide +kernel
theorem f_199_187 : decode (mB 199) 187 = .ok (.iadd, 1) := by decide +kernel
theorem f_199_188 : decode (mB 199) 188 = .ok (.iaload, 1) := by decide +kernel
theorem f_199_189 : decode (mB 199) 189 = .ok (.aload_n 0, 1) := by decide +kernel
theorem f_199_190 : decode (mB 199) 190 = .ok (.getfield 20, 3) := by decide +kernel
theorem f_199_193 : decode (mB 199) 193 = .ok (.bipush 14, 2) := by decide +kernel
theorem f_199_195 : decode (mB 199) 195 = .ok (.iload_n 2, 1) := by decide +kernel
theorem f_199_196 : decode (mB 199) 196 = .ok (.imul, 1) := by decide +kernel
theorem f_199_197 : decode (mB 199) 197 = .ok (.iload_n 3, 1) := by decide +kernel
theorem f_199_198 : decode (mB 199) 198 = .ok (.iadd, 1) := by decide +kernel
theorem f_199_199 : decode (mB 199) 199 = .ok (.iaload, 1) := by decide +kernel
theorem f_199_200 : decode (mB 199) 200 = .ok (.imul, 1) := by decide +kernel
theorem f_199_201 : decode (mB 199) 201 = .ok (.istore 4, 2) := by decide +kernel
theorem f_199_203 : decode (mB 199) 203 = .ok (.iload 4, 2) := by decide +kernel
theorem f_199_205 : decode (mB 199) 205 = .ok (.ifCond .eq 99, 3) := by decide +kernel
theorem f_199_208 : decode (mB 199) 208 = .ok (.aload_n 0, 1) := by decide +kernel
theorem f_199_209 : decode (mB 199) 209 = .ok (.iload_n 3, 1) := by decide +kernel
theorem f_199_210 : decode (mB 199) 210 = .ok (.invokevirtual 91, 3) := by decide +kernel
theorem f_199_213 : decode (mB 199) 213 = .ok (.ifCond .eq 6, 3) := by decide +kernel
theorem f_199_216 : decode (mB 199) 216 = .ok (.goto 88, 3) := by decide +kernel
theorem f_199_219 : decode (mB 199) 219 = .ok (.iload_n 3, 1) := by decide +kernel
theorem f_199_220 : decode (mB 199) 220 = .ok (.iconst 1, 1) := by decide +kernel
theorem f_199_221 : decode (mB 199) 221 = .ok (.iadd, 1) := by decide +kernel
theorem f_199_222 : decode (mB 199) 222 = .ok (.istore 5, 2) := by decide +kernel
theorem f_199_224 : decode (mB 199) 224 = .ok (.iload 5, 2) := by decide +kernel
theorem f_199_226 : decode (mB 199) 226 = .ok (.aload_n 0, 1) := by decide +kernel
theorem f_199_227 : decode (mB 199) 227 = .ok (.getfield 7, 3) := by decide +kernel
theorem f_199_230 : decode (mB 199) 230 = .ok (.iconst 0, 1) := by decide +kernel
theorem f_199_231 : decode (mB 199) 231 = .ok (.iaload, 1) := by decide +kernel
theorem f_199_232 : decode (mB 199) 232 = .ok (.if_icmp .ge 72, 3) := by decide +kernel
theorem f_199_235 : decode (mB 199) 235 = .ok (.bipush 14, 2) := by decide +kernel
theorem f_199_237 : decode (mB 199) 237 = .ok (.iload_n 2, 1) := by decide +kernel
theorem f_199_238 : decode (mB 199) 238 = .ok (.imul, 1) := by decide +kernel
theorem f_199_239 : decode (mB 199) 239 = .ok (.bipush 14, 2) := by decide +kernel
theorem f_199_241 : decode (mB 199) 241 = .ok (.iadd, 1) := by decide +kernel
theorem f_199_242 : decode (mB 199) 242 = .ok (.iload 5, 2) := by decide +kernel
theorem f_199_244 : decode (mB 199) 244 = .ok (.iadd, 1) := by decide +kernel
theorem f_199_245 : decode (mB 199) 245 = .ok (.istore 6, 2) := by decide +kernel
theorem f_199_247 : decode (mB 199) 247 = .ok (.aload_n 0, 1) := by decide +kernel
theorem f_199_248 : decode (mB 199) 248 = .ok (.iload 5, 2) := by decide +kernel
theorem f_199_250 : decode (mB 199) 250 = .ok (.iload_n 3, 1) := by decide +kernel
theorem f_199_251 : decode (mB 199) 251 = .ok (.invokevirtual 117, 3) := by decide +kernel
theorem f_199_254 : decode (mB 199) 254 = .ok (.ifCond .eq 44, 3) := by decide +kernel
theorem f_199_257 : decode (mB 199) 257 = .ok (.aload_n 0, 1) := by decide +kernel
theorem f_199_258 : decode (mB 199) 258 = .ok (.getfield 16, 3) := by decide +kernel
theorem f_199_261 : decode (mB 199) 261 = .ok (.iload 6, 2) := by decide +kernel
theorem f_199_263 : decode (mB 199) 263 = .ok (.baload, 1) := by decide +kernel
theorem f_199_264 : decode (mB 199) 264 = .ok (.ifCond .eq 34, 3) := by decide +kernel
theorem f_199_267 : decode (mB 199) 267 = .ok (.aload_n 0, 1) := by decide +kernel
theorem f_199_268 : decode (mB 199) 268 = .ok (.getfield 23, 3) := by decide +kernel
theorem f_199_271 : decode (mB 199) 271 = .ok (.iload 6, 2) := by decide +kernel
theorem f_199_273 : decode (mB 199) 273 = .ok (.iaload, 1) := by decide +kernel
theorem f_199_274 : decode (mB 199) 274 = .ok (.ifCond .eq 15, 3) := by decide +kernel
theorem f_199_277 : decode (mB 199) 277 = .ok (.iload 4, 2) := by decide +kernel
theorem f_199_279 : decode (mB 199) 279 = .ok (.aload_n 0, 1) := by decide +kernel
theorem f_199_280 : decode (mB 199) 280 = .ok (.getfield 23, 3) := by decide +kernel
theorem f_199_283 : decode (mB 199) 283 = .ok (.iload 6, 2) := by decide +kernel
theorem f_199_285 : decode (mB 199) 285 = .ok (.iaload, 1) := by decide +kernel
theorem f_199_286 : decode (mB 199) 286 = .ok (.if_icmp .ge 12, 3) := by decide +kernel
theorem f_199_289 : decode (mB 199) 289 = .ok (.aload_n 0, 1) := by decide +kernel
theorem f_199_290 : decode (mB 199) 290 = .ok (.getfield 23, 3) := by decide +kernel
theorem f_199_293 : decode (mB 199) 293 = .ok (.iload 6, 2) := by decide +kernel
theorem f_199_295 : decode (mB 199) 295 = .ok (.iload 4, 2) := by decide +kernel
theorem f_199_297 : decode (mB 199) 297 = .ok (.iastore, 1) := by decide +kernel
theorem f_199_298 : decode (mB 199) 298 = .ok (.iinc 5 1, 3) := by decide +kernel
theorem f_199_301 : decode (mB 199) 301 = .ok (.goto (-77), 3) := by decide +kernel
theorem f_199_304 : decode (mB 199) 304 = .ok (.iinc 3 1, 3) := by decide +kernel
theorem f_199_307 : decode (mB 199) 307 = .ok (.goto (-139), 3) := by decide +kernel
theorem f_199_310 : decode (mB 199) 310 = .ok (.iinc 2 1, 3) := by decide +kernel
theorem f_199_313 : decode (mB 199) 313 = .ok (.goto (-152), 3) := by decide +kernel
theorem f_199_316 : decode (mB 199) 316 = .ok (.return_, 1) := by decide +kernel
theorem f_200_0 : decode (mB 200) 0 = .ok (.aload_n 0, 1) := by decide +kernel
theorem f_200_1 : decode (mB 200) 1 = .ok (.iload_n 1, 1) := by decide +kernel
theorem f_200_2 : decode (mB 200) 2 = .ok (.iconst 1, 1) := by decide +kernel
theorem f_200_3 : decode (mB 200) 3 = .ok (.invokevirtual 73, 3) := by decide +kernel
theorem f_200_6 : decode (mB 200) 6 = .ok (.iload_n 2, 1) := by decide +kernel
theorem f_200_7 : decode (mB 200) 7 = .ok (.if_icmp .eq 13, 3) := by decide +kernel
theorem f_200_10 : decode (mB 200) 10 = .ok (.aload_n 0, 1) := by decide +kernel
theorem f_200_11 : decode (mB 200) 11 = .ok (.iload_n 1, 1) := by decide +kernel
theorem f_200_12 : decode (mB 200) 12 = .ok (.iconst 2, 1) := by decide +kernel
theorem f_200_13 : decode (mB 200) 13 = .ok (.invokevirtual 73, 3) := by decide +kernel
theorem f_200_16 : decode (mB 200) 16 = .ok (.iload_n 2, 1) := by decide +kernel
theorem f_200_17 : decode (mB 200) 17 = .ok (.if_icmp .ne 7, 3) := by decide +kernel
theorem f_200_20 : decode (mB 200) 20 = .ok (.iconst 1, 1) := by decide +kernel
theorem f_200_21 : decode (mB 200) 21 = .ok (.goto 4, 3) := by decide +kernel
theorem f_200_24 : decode (mB 200) 24 = .ok (.iconst 0, 1) := by decide +kernel
theorem f_200_25 : decode (mB 200) 25 = .ok (.ireturn, 1) := by decide +kernel
theorem f_201_0 : decode (mB 201) 0 = .ok (.iconst 0, 1) := by decide +kernel
theorem f_201_1 : decode (mB 201) 1 = .ok (.istore_n 2, 1) := by decide +kernel
theorem f_201_2 : decode (mB 201) 2 = .ok (.iconst 0, 1) := by decide +kernel
theorem f_201_3 : decode (mB 201) 3 = .ok (.istore_n 3, 1) := by decide +kernel
theorem f_201_4 : decode (mB 201) 4 = .ok (.iload_n 3, 1) := by decide +kernel
theorem f_201_5 : decode (mB 201) 5 = .ok (.bipush 6, 2) := by decide +kernel
theorem f_201_7 : decode (mB 201) 7 = .ok (.if_icmp .ge 56, 3) := by decide +kernel
theorem f_201_10 : decode (mB 201) 10 = .ok (.aload_n 0, 1) := by decide +kernel
theorem f_201_11 : decode (mB 201) 11 = .ok (.iload_n 1, 1) := by decide +kernel
theorem f_201_12 : decode (mB 201) 12 = .ok (.invokevirtual 91, 3) := by decide +kernel
theorem f_201_15 : decode (mB 201) 15 = .ok (.ifCond .eq 17, 3) := by decide +kernel
theorem f_201_18 : decode (mB 201) 18 = .ok (.aload_n 0, 1) := by decide +kernel
theorem f_201_19 : decode (mB 201) 19 = .ok (.getfield 23, 3) := by decide +kernel
theorem f_201_22 : decode (mB 201) 22 = .ok (.bipush 14, 2) := by decide +kernel
theorem f_201_24 : decode (mB 201) 24 = .ok (.iload_n 3, 1) := by decide +kernel
theorem f_201_25 : decode (mB 201) 25 = .ok (.imul, 1) := by decide +kernel
theorem f_201_26 : decode (mB 201) 26 = .ok (.iload_n 1, 1) := by decide +kernel
theorem f_201_27 : decode (mB 201) 27 = .ok (.iadd, 1) := by decide +kernel
theorem f_201_28 : decode (mB 201) 28 = .ok (.iaload, 1) := by decide +kernel
theorem f_201_29 : decode (mB 201) 29 = .ok (.goto 4, 3) := by decide +kernel
theorem f_201_32 : decode (mB 201) 32 = .ok (.iconst 0, 1) := by decide +kernel
theorem f_201_33 : decode (mB 201) 33 = .ok (.istore 4, 2) := by decide +kernel
theorem f_201_35 : decode (mB 201) 35 = .ok (.iload 4, 2) := by decide +kernel
theorem f_201_37 : decode (mB 201) 37 = .ok (.ifCond .le 18, 3) := by decide +kernel
theorem f_201_40 : decode (mB 201) 40 = .ok (.iload_n 2, 1) := by decide +kernel
theorem f_201_41 : decode (mB 201) 41 = .ok (.ifCond .eq 9, 3) := by decide +kernel
theorem f_201_44 : decode (mB 201) 44 = .ok (.iload 4, 2) := by decide +kernel
theorem f_201_46 : decode (mB 201) 46 = .ok (.iload_n 2, 1) := by decide +kernel
theorem f_201_47 : decode (mB 201) 47 = .ok (.if_icmp .ge 8, 3) := by decide +kernel
theorem f_201_50 : decode (mB 201) 50 = .ok (.iload 4, 2) := by decide +kernel
theorem f_201_52 : decode (mB 201) 52 = .ok (.goto 4, 3) := by decide +kernel
theorem f_201_55 : decode (mB 201) 55 = .ok (.iload_n 2, 1) := by decide +kernel
theorem f_201_56 : decode (mB 201) 56 = .ok (.istore_n 2, 1) := by decide +kernel
theorem f_201_57 : decode (mB 201) 57 = .ok (.iinc 3 1, 3) := by decide +kernel
theorem f_201_60 : decode (mB 201) 60 = .ok (.goto (-56), 3) := by decide +kernel
theorem f_201_63 : decode (mB 201) 63 = .ok (.iload_n 2, 1) := by decide +kernel
theorem f_201_64 : decode (mB 201) 64 = .ok (.ireturn, 1) := by decide +kernel
theorem f_202_0 : decode (mB 202) 0 = .ok (.aload_n 0, 1) := by decide +kernel
theorem f_202_1 : decode (mB 202) 1 = .ok (.iload_n 1, 1) := by decide +kernel
theorem f_202_2 : decode (mB 202) 2 = .ok (.invokevirtual 87, 3) := by decide +kernel
theorem f_202_5 : decode (mB 202) 5 = .ok (.ifCond .eq 11, 3) := by decide +kernel
theorem f_202_8 : decode (mB 202) 8 = .ok (.aload_n 0, 1) := by decide +kernel
theorem f_202_9 : decode (mB 202) 9 = .ok (.iload_n 2, 1) := by decide +kernel
theorem f_202_10 : decode (mB 202) 10 = .ok (.invokevirtual 87, 3) := by decide +kernel
theorem f_202_13 : decode (mB 202) 13 = .ok (.ifCond .ne 10, 3) := by decide +kernel
theorem f_202_16 : decode (mB 202) 16 = .ok (.aload_n 0, 1) := by decide +kernel
theorem f_202_17 : decode (mB 202) 17 = .ok (.ldc 77, 2) := by decide +kernel
theorem f_202_19 : decode (mB 202) 19 = .ok (.invokevirtual 78, 3) := by decide +kernel
theorem f_202_22 : decode (mB 202) 22 = .ok (.ireturn, 1) := by decide +kernel
theorem f_202_23 : decode (mB 202) 23 = .ok (.aload_n 0, 1) := by decide +kernel
theorem f_202_24 : decode (mB 202) 24 = .ok (.iload_n 1, 1) := by decide +kernel
theorem f_202_25 : decode (mB 202) 25 = .ok (.invokevirtual 121, 3) := by decide +kernel
theorem f_202_28 : decode (mB 202) 28 = .ok (.aload_n 0, 1) := by decide +kernel
theorem f_202_29 : decode (mB 202) 29 = .ok (.iload_n 2, 1) := by decide +kernel
theorem f_202_30 : decode (mB 202) 30 = .ok (.invokevirtual 125, 3) := by decide +kernel
theorem f_202_33 : decode (mB 202) 33 = .ok (.istore_n 3, 1) := by decide +kernel
theorem f_202_34 : decode (mB 202) 34 = .ok (.iload_n 3, 1) := by decide +kernel
theorem f_202_35 : decode (mB 202) 35 = .ok (.ifCond .ne 12, 3) := by decide +kernel
theorem f_202_38 : decode (mB 202) 38 = .ok (.aload_n 0, 1) := by decide +kernel
theorem f_202_39 : decode (mB 202) 39 = .ok (.ldc 131, 2) := by decide +kernel
theorem f_202_41 : decode (mB 202) 41 = .ok (.invokevirtual 78, 3) := by decide +kernel
theorem f_202_44 : decode (mB 202) 44 = .ok (.goto 4, 3) := by decide +kernel
theorem f_202_47 : decode (mB 202) 47 = .ok (.iload_n 3, 1) := by decide +kernel
theorem f_202_48 : decode (mB 202) 48 = .ok (.ireturn, 1) := by decide +kernel
theorem f_203_0 : decode (mB 203) 0 = .ok (.iload_n 1, 1) := by decide +kernel
theorem f_203_1 : decode (mB 203) 1 = .ok (.iconst 0, 1) := by decide +kernel
theorem f_203_2 : decode (mB 203) 2 = .ok (.bipush 6, 2) := by decide +kernel
theorem f_203_4 : decode (mB 203) 4 = .ok (.invokestatic 69, 3) := by decide +kernel
theorem f_203_7 : decode (mB 203) 7 = .ok (.ifCond .eq 57, 3) := by decide +kernel
theorem f_203_10 : decode (mB 203) 10 = .ok (.iload_n 2, 1) := by decide +kernel
theorem f_203_11 : decode (mB 203) 11 = .ok (.ifCond .lt 53, 3) := by decide +kernel
theorem f_203_14 : decode (mB 203) 14 = .ok (.aload_n 0, 1) := by decide +kernel
theorem f_203_15 : decode (mB 203) 15 = .ok (.iload_n 2, 1) := by decide +kernel
theorem f_203_16 : decode (mB 203) 16 = .ok (.bipush 100, 2) := by decide +kernel
theorem f_203_18 : decode (mB 203) 18 = .ok (.idiv, 1) := by decide +kernel
theorem f_203_19 : decode (mB 203) 19 = .ok (.invokevirtual 87, 3) := by decide +kernel
theorem f_203_22 : decode (mB 203) 22 = .ok (.ifCond .eq 42, 3) := by decide +kernel
theorem f_203_25 : decode (mB 203) 25 = .ok (.aload_n 0, 1) := by decide +kernel
theorem f_203_26 : decode (mB 203) 26 = .ok (.iload_n 2, 1) := by decide +kernel
theorem f_203_27 : decode (mB 203) 27 = .ok (.bipush 100, 2) := by decide +kernel
theorem f_203_29 : decode (mB 203) 29 = .ok (.irem, 1) := by decide +kernel
theorem f_203_30 : decode (mB 203) 30 = .ok (.invokevirtual 87, 3) := by decide +kernel
theorem f_203_33 : decode (mB 203) 33 = .ok (.ifCond .eq 31, 3) := by decide +kernel
theorem f_203_36 : decode (mB 203) 36 = .ok (.iload_n 3, 1) := by decide +kernel
theorem f_203_37 : decode (mB 203) 37 = .ok (.iconst 1, 1) := by decide +kernel
theorem f_203_38 : decode (mB 203) 38 = .ok (.sipush 9999, 3) := by decide +kernel
theorem f_203_41 : decode (mB 203) 41 = .ok (.invokestatic 69, 3) := by decide +kernel
theorem f_203_44 : decode (mB 203) 44 = .ok (.ifCond .eq 20, 3) := by decide +kernel
theorem f_203_47 : decode (mB 203) 47 = .ok (.iload 4, 2) := by decide +kernel
theorem f_203_49 : decode (mB 203) 49 = .ok (.aload_n 0, 1) := by decide +kernel
theorem f_203_50 : decode (mB 203) 50 = .ok (.getfield 7, 3) := by decide +kernel
theorem f_203_53 : decode (mB 203) 53 = .ok (.iconst 3, 1) := by decide +kernel
theorem f_203_54 : decode (mB 203) 54 = .ok (.iaload, 1) := by decide +kernel
theorem f_203_55 : decode (mB 203) 55 = .ok (.sipush 400, 3) := by decide +kernel
theorem f_203_58 : decode (mB 203) 58 = .ok (.invokestatic 69, 3) := by decide +kernel
theorem f_203_61 : decode (mB 203) 61 = .ok (.ifCond .ne 10, 3) := by decide +kernel
theorem f_203_64 : decode (mB 203) 64 = .ok (.aload_n 0, 1) := by decide +kernel
theorem f_203_65 : decode (mB 203) 65 = .ok (.ldc 77, 2) := by decide +kernel
theorem f_203_67 : decode (mB 203) 67 = .ok (.invokevirtual 78, 3) := by decide +kernel
theorem f_203_70 : decode (mB 203) 70 = .ok (.ireturn, 1) := by decide +kernel
theorem f_203_71 : decode (mB 203) 71 = .ok (.iload_n 2, 1) := by decide +kernel
theorem f_203_72 : decode (mB 203) 72 = .ok (.bipush 100, 2) := by decide +kernel
theorem f_203_74 : decode (mB 203) 74 = .ok (.idiv, 1) := by decide +kernel
theorem f_203_75 : decode (mB 203) 75 = .ok (.istore 6, 2) := by decide +kernel
theorem f_203_77 : decode (mB 203) 77 = .ok (.iload_n 2, 1) := by decide +kernel
theorem f_203_78 : decode (mB 203) 78 = .ok (.bipush 100, 2) := by decide +kernel
theorem f_203_80 : decode (mB 203) 80 = .ok (.irem, 1) := by decide +kernel
theorem f_203_81 : decode (mB 203) 81 = .ok (.istore 7, 2) := by decide +kernel
theorem f_203_83 : decode (mB 203) 83 = .ok (.iload 6, 2) := by decide +kernel
theorem f_203_85 : decode (mB 203) 85 = .ok (.iload 7, 2) := by decide +kernel
theorem f_203_87 : decode (mB 203) 87 = .ok (.if_icmp .ne 10, 3) := by decide +kernel
theorem f_203_90 : decode (mB 203) 90 = .ok (.aload_n 0, 1) := by decide +kernel
theorem f_203_91 : decode (mB 203) 91 = .ok (.ldc 135, 2) := by decide +kernel
theorem f_203_93 : decode (mB 203) 93 = .ok (.invokevirtual 78, 3) := by decide +kernel
theorem f_203_96 : decode (mB 203) 96 = .ok (.ireturn, 1) := by decide +kernel
theorem f_203_97 : decode (mB 203) 97 = .ok (.aload_n 0, 1) := by decide +kernel
theorem f_203_98 : decode (mB 203) 98 = .ok (.iload 6, 2) := by decide +kernel
theorem f_203_100 : decode (mB 203) 100 = .ok (.invokevirtual 91, 3) := by decide +kernel
theorem f_203_103 : decode (mB 203) 103 = .ok (.ifCond .eq 12, 3) := by decide +kernel
theorem f_203_106 : decode (mB 203) 106 = .ok (.aload_n 0, 1) := by decide +kernel
theorem f_203_107 : decode (mB 203) 107 = .ok (.iload 7, 2) := by decide +kernel
theorem f_203_109 : decode (mB 203) 109 = .ok (.invokevirtual 91, 3) := by decide +kernel
theorem f_203_112 : decode (mB 203) 112 = .ok (.ifCond .ne 10, 3) := by decide +kernel
theorem f_203_115 : decode (mB 203) 115 = .ok (.aload_n 0, 1) := by decide +kernel
theorem f_203_116 : decode (mB 203) 116 = .ok (.ldc 131, 2) := by decide +kernel
theorem f_203_118 : decode (mB 203) 118 = .ok (.invokevirtual 78, 3) := by decide +kernel
theorem f_203_121 : decode (mB 203) 121 = .ok (.ireturn, 1) := by decide +kernel
theorem f_203_122 : decode (mB 203) 122 = .ok (.iload_n 1, 1) := by decide +kernel
theorem f_203_123 : decode (mB 203) 123 = .ok (.invokestatic 136, 3) := by decide +kernel
theorem f_203_126 : decode (mB 203) 126 = .ok (.ifCond .eq 31, 3) := by decide +kernel
theorem f_203_129 : decode (mB 203) 129 = .ok (.aload_n 0, 1) := by decide +kernel
theorem f_203_130 : decode (mB 203) 130 = .ok (.iload 5, 2) := by decide +kernel
theorem f_203_132 : decode (mB 203) 132 = .ok (.invokevirtual 114, 3) := by decide +kernel
theorem f_203_135 : decode (mB 203) 135 = .ok (.ifCond .eq 15, 3) := by decide +kernel
theorem f_203_138 : decode (mB 203) 138 = .ok (.aload_n 0, 1) := by decide +kernel
theorem f_203_139 : decode (mB 203) 139 = .ok (.iload 5, 2) := by decide +kernel
theorem f_203_141 : decode (mB 203) 141 = .ok (.iconst 2, 1) := by decide +kernel
theorem f_203_142 : decode (mB 203) 142 = .ok (.invokevirtual 111, 3) := by decide +kernel
theorem f_203_145 : decode (mB 203) 145 = .ok (.iload 6, 2) := by decide +kernel
theorem f_203_147 : decode (mB 203) 147 = .ok (.if_icmp .eq 10, 3) := by decide +kernel
theorem f_203_150 : decode (mB 203) 150 = .ok (.aload_n 0, 1) := by decide +kernel
theorem f_203_151 : decode (mB 203) 151 = .ok (.ldc 139, 2) := by decide +kernel
theorem f_203_153 : decode (mB 203) 153 = .ok (.invokevirtual 78, 3) := by decide +kernel
theorem f_203_156 : decode (mB 203) 156 = .ok (.ireturn, 1) := by decide +kernel
theorem f_203_157 : decode (mB 203) 157 = .ok (.iload_n 1, 1) := by decide +kernel
theorem f_203_158 : decode (mB 203) 158 = .ok (.bipush 6, 2) := by decide +kernel
theorem f_203_160 : decode (mB 203) 160 = .ok (.if_icmp .ne 21, 3) := by decide +kernel
theorem f_203_163 : decode (mB 203) 163 = .ok (.aload_n 0, 1) := by decide +kernel
theorem f_203_164 : decode (mB 203) 164 = .ok (.iload 6, 2) := by decide +kernel
theorem f_203_166 : decode (mB 203) 166 = .ok (.bipush 8, 2) := by decide +kernel
theorem f_203_168 : decode (mB 203) 168 = .ok (.invokevirtual 73, 3) := by decide +kernel
theorem f_203_171 : decode (mB 203) 171 = .ok (.ifCond .lt 10, 3) := by decide +kernel
theorem f_203_174 : decode (mB 203) 174 = .ok (.aload_n 0, 1) := by decide +kernel
theorem f_203_175 : decode (mB 203) 175 = .ok (.ldc 94, 2) := by decide +kernel
theorem f_203_177 : decode (mB 203) 177 = .ok (.invokevirtual 78, 3) := by decide +kernel
theorem f_203_180 : decode (mB 203) 180 = .ok (.ireturn, 1) := by decide +kernel
theorem f_203_181 : decode (mB 203) 181 = .ok (.aload_n 0, 1) := by decide +kernel
theorem f_203_182 : decode (mB 203) 182 = .ok (.getfield 7, 3) := by decide +kernel
theorem f_203_185 : decode (mB 203) 185 = .ok (.iconst 2, 1) := by decide +kernel
theorem f_203_186 : decode (mB 203) 186 = .ok (.iaload, 1) := by decide +kernel
theorem f_203_187 : decode (mB 203) 187 = .ok (.bipush 20, 2) := by decide +kernel
theorem f_203_189 : decode (mB 203) 189 = .ok (.if_icmp .ne 10, 3) := by decide +kernel
theorem f_203_192 : decode (mB 203) 192 = .ok (.aload_n 0, 1) := by decide +kernel
theorem f_203_193 : decode (mB 203) 193 = .ok (.ldc 82, 2) := by decide +kernel
theorem f_203_195 : decode (mB 203) 195 = .ok (.invokevirtual 78, 3) := by decide +kernel
theorem f_203_198 : decode (mB 203) 198 = .ok (.ireturn, 1) := by decide +kernel
theorem f_203_199 : decode (mB 203) 199 = .ok (.aload_n 0, 1) := by decide +kernel
theorem f_203_200 : decode (mB 203) 200 = .ok (.iload_n 1, 1) := by decide +kernel
theorem f_203_201 : decode (mB 203) 201 = .ok (.iload 6, 2) := by decide +kernel
theorem f_203_203 : decode (mB 203) 203 = .ok (.iload 7, 2) := by decide +kernel
theorem f_203_205 : decode (mB 203) 205 = .ok (.iload_n 3, 1) := by decide +kernel
theorem f_203_206 : decode (mB 203) 206 = .ok (.iload 4, 2) := by decide +kernel
theorem f_203_208 : decode (mB 203) 208 = .ok (.iload_n 1, 1) := by decide +kernel
theorem f_203_209 : decode (mB 203) 209 = .ok (.invokestatic 136, 3) := by decide +kernel
theorem f_203_212 : decode (mB 203) 212 = .ok (.ifCond .eq 8, 3) := by decide +kernel
theorem f_203_215 : decode (mB 203) 215 = .ok (.iload 5, 2) := by decide +kernel
theorem f_203_217 : decode (mB 203) 217 = .ok (.goto 4, 3) := by decide +kernel
theorem f_203_220 : decode (mB 203) 220 = .ok (.iconst (-1), 1) := by decide +kernel
theorem f_203_221 : decode (mB 203) 221 = .ok (.iconst 2, 1) := by decide +kernel
theorem f_203_222 : decode (mB 203) 222 = .ok (.invokevirtual 140, 3) := by decide +kernel
theorem f_203_225 : decode (mB 203) 225 = .ok (.istore 8, 2) := by decide +kernel
theorem f_203_227 : decode (mB 203) 227 = .ok (.iload_n 1, 1) := by decide +kernel
theorem f_203_228 : decode (mB 203) 228 = .ok (.iconst 3, 1) := by decide +kernel
theorem f_203_229 : decode (mB 203) 229 = .ok (.if_icmp .eq 8, 3) := by decide +kernel
theorem f_203_232 : decode (mB 203) 232 = .ok (.iload_n 1, 1) := by decide +kernel
theorem f_203_233 : decode (mB 203) 233 = .ok (.iconst 4, 1) := by decide +kernel
theorem f_203_234 : decode (mB 203) 234 = .ok (.if_icmp .ne 20, 3) := by decide +kernel
theorem f_203_237 : decode (mB 203) 237 = .ok (.aload_n 0, 1) := by decide +kernel
theorem f_203_238 : decode (mB 203) 238 = .ok (.getfield 7, 3) := by decide +kernel
theorem f_203_241 : decode (mB 203) 241 = .ok (.sipush 150, 3) := by decide +kernel
theorem f_203_244 : decode (mB 203) 244 = .ok (.iconst 4, 1) := by decide +kernel
theorem f_203_245 : decode (mB 203) 245 = .ok (.iload 5, 2) := by decide +kernel
theorem f_203_247 : decode (mB 203) 247 = .ok (.imul, 1) := by decide +kernel
theorem f_203_248 : decode (mB 203) 248 = .ok (.iadd, 1) := by decide +kernel
theorem f_203_249 : decode (mB 203) 249 = .ok (.iconst 2, 1) := by decide +kernel
theorem f_203_250 : decode (mB 203) 250 = .ok (.iadd, 1) := by decide +kernel
theorem f_203_251 : decode (mB 203) 251 = .ok (.iload 7, 2) := by decide +kernel
theorem f_203_253 : decode (mB 203) 253 = .ok (.iastore, 1) := by decide +kernel
theorem f_203_254 : decode (mB 203) 254 = .ok (.iload_n 1, 1) := by decide +kernel
theorem f_203_255 : decode (mB 203) 255 = .ok (.bipush 6, 2) := by decide +kernel
theorem f_203_257 : decode (mB 203) 257 = .ok (.if_icmp .ne 13, 3) := by decide +kernel
theorem f_203_260 : decode (mB 203) 260 = .ok (.aload_n 0, 1) := by decide +kernel
theorem f_203_261 : decode (mB 203) 261 = .ok (.iload 6, 2) := by decide +kernel
theorem f_203_263 : decode (mB 203) 263 = .ok (.bipush 8, 2) := by decide +kernel
theorem f_203_265 : decode (mB 203) 265 = .ok (.iload 7, 2) := by decide +kernel
theorem f_203_267 : decode (mB 203) 267 = .ok (.invokevirtual 83, 3) := by decide +kernel
theorem f_203_270 : decode (mB 203) 270 = .ok (.iload 8, 2) := by decide +kernel
theorem f_203_272 : decode (mB 203) 272 = .ok (.ireturn, 1) := by decide +kernel
theorem f_204_0 : decode (mB 204) 0 = .ok (.iload_n 0, 1) := by decide +kernel
theorem f_204_1 : decode (mB 204) 1 = .ok (.iconst 2, 1) := by decide +kernel
theorem f_204_2 : decode (mB 204) 2 = .ok (.if_icmp .eq 13, 3) := by decide +kernel
theorem f_204_5 : decode (mB 204) 5 = .ok (.iload_n 0, 1) := by decide +kernel
theorem f_204_6 : decode (mB 204) 6 = .ok (.iconst 3, 1) := by decide +kernel
theorem f_204_7 : decode (mB 204) 7 = .ok (.if_icmp .eq 8, 3) := by decide +kernel
theorem f_204_10 : decode (mB 204) 10 = .ok (.iload_n 0, 1) := by decide +kernel
theorem f_204_11 : decode (mB 204) 11 = .ok (.iconst 4, 1) := by decide +kernel
theorem f_204_12 : decode (mB 204) 12 = .ok (.if_icmp .ne 7, 3) := by decide +kernel
theorem f_204_15 : decode (mB 204) 15 = .ok (.iconst 1, 1) := by decide +kernel
theorem f_204_16 : decode (mB 204) 16 = .ok (.goto 4, 3) := by decide +kernel
theorem f_204_19 : decode (mB 204) 19 = .ok (.iconst 0, 1) := by decide +kernel
theorem f_204_20 : decode (mB 204) 20 = .ok (.ireturn, 1) := by decide +kernel
theorem f_205_0 : decode (mB 205) 0 = .ok (.aload_n 0, 1) := by decide +kernel
theorem f_205_1 : decode (mB 205) 1 = .ok (.getfield 7, 3) := by decide +kernel
theorem f_205_4 : decode (mB 205) 4 = .ok (.iconst 2, 1) := by decide +kernel
theorem f_205_5 : decode (mB 205) 5 = .ok (.iaload, 1) := by decide +kernel
theorem f_205_6 : decode (mB 205) 6 = .ok (.istore 8, 2) := by decide +kernel
theorem f_205_8 : decode (mB 205) 8 = .ok (.aload_n 0, 1) := by decide +kernel
theorem f_205_9 : decode (mB 205) 9 = .ok (.getfield 7, 3) := by decide +kernel
theorem f_205_12 : decode (mB 205) 12 = .ok (.iconst 2, 1) := by decide +kernel
theorem f_205_13 : decode (mB 205) 13 = .ok (.dup2, 1) := by decide +kernel
theorem f_205_14 : decode (mB 205) 14 = .ok (.iaload, 1) := by decide +kernel
theorem f_205_15 : decode (mB 205) 15 = .ok (.iconst 1, 1) := by decide +kernel
theorem f_205_16 : decode (mB 205) 16 = .ok (.iadd, 1) := by decide +kernel
theorem f_205_17 : decode (mB 205) 17 = .ok (.iastore, 1) := by decide +kernel
theorem f_205_18 : decode (mB 205) 18 = .ok (.aload_n 0, 1) := by decide +kernel
theorem f_205_19 : decode (mB 205) 19 = .ok (.iload 8, 2) := by decide +kernel
theorem f_205_21 : decode (mB 205) 21 = .ok (.iconst 0, 1) := by decide +kernel
theorem f_205_22 : decode (mB 205) 22 = .ok (.iload_n 1, 1) := by decide +kernel
theorem f_205_23 : decode (mB 205) 23 = .ok (.invokevirtual 132, 3) := by decide +kernel
theorem f_205_26 : decode (mB 205) 26 = .ok (.aload_n 0, 1) := by decide +kernel
theorem f_205_27 : decode (mB 205) 27 = .ok (.iload 8, 2) := by decide +kernel
theorem f_205_29 : decode (mB 205) 29 = .ok (.iconst 1, 1) := by decide +kernel
theorem f_205_30 : decode (mB 205) 30 = .ok (.iload_n 2, 1) := by decide +kernel
theorem f_205_31 : decode (mB 205) 31 = .ok (.invokevirtual 132, 3) := by decide +kernel
theorem f_205_34 : decode (mB 205) 34 = .ok (.aload_n 0, 1) := by decide +kernel
theorem f_205_35 : decode (mB 205) 35 = .ok (.iload 8, 2) := by decide +kernel
theorem f_205_37 : decode (mB 205) 37 = .ok (.iconst 2, 1) := by decide +kernel
theorem f_205_38 : decode (mB 205) 38 = .ok (.iload_n 3, 1) := by decide +kernel
theorem f_205_39 : decode (mB 205) 39 = .ok (.invokevirtual 132, 3) := by decide +kernel
theorem f_205_42 : decode (mB 205) 42 = .ok (.aload_n 0, 1) := by decide +kernel
theorem f_205_43 : decode (mB 205) 43 = .ok (.iload 8, 2) := by decide +kernel
theorem f_205_45 : decode (mB 205) 45 = .ok (.iconst 3, 1) := by decide +kernel
theorem f_205_46 : decode (mB 205) 46 = .ok (.iload 4, 2) := by decide +kernel
theorem f_205_48 : decode (mB 205) 48 = .ok (.invokevirtual 132, 3) := by decide +kernel
theorem f_205_51 : decode (mB 205) 51 = .ok (.aload_n 0, 1) := by decide +kernel
theorem f_205_52 : decode (mB 205) 52 = .ok (.iload 8, 2) := by decide +kernel
theorem f_205_54 : decode (mB 205) 54 = .ok (.iconst 4, 1) := by decide +kernel
theorem f_205_55 : decode (mB 205) 55 = .ok (.iconst 0, 1) := by decide +kernel
theorem f_205_56 : decode (mB 205) 56 = .ok (.invokevirtual 132, 3) := by decide +kernel
theorem f_205_59 : decode (mB 205) 59 = .ok (.aload_n 0, 1) := by decide +kernel
theorem f_205_60 : decode (mB 205) 60 = .ok (.iload 8, 2) := by decide +kernel
theorem f_205_62 : decode (mB 205) 62 = .ok (.iconst 5, 1) := by decide +kernel
theorem f_205_63 : decode (mB 205) 63 = .ok (.aload_n 0, 1) := by decide +kernel
theorem f_205_64 : decode (mB 205) 64 = .ok (.getfield 7, 3) := by decide +kernel
theorem f_205_67 : decode (mB 205) 67 = .ok (.iconst 3, 1) := by decide +kernel
theorem f_205_68 : decode (mB 205) 68 = .ok (.iaload, 1) := by decide +kernel
theorem f_205_69 : decode (mB 205) 69 = .ok (.invokevirtual 132, 3) := by decide +kernel
theorem f_205_72 : decode (mB 205) 72 = .ok (.aload_n 0, 1) := by decide +kernel
theorem f_205_73 : decode (mB 205) 73 = .ok (.iload 8, 2) := by decide +kernel
theorem f_205_75 : decode (mB 205) 75 = .ok (.bipush 6, 2) := by decide +kernel
theorem f_205_77 : decode (mB 205) 77 = .ok (.iload 5, 2) := by decide +kernel
theorem f_205_79 : decode (mB 205) 79 = .ok (.invokevirtual 132, 3) := by decide +kernel
theorem f_205_82 : decode (mB 205) 82 = .ok (.aload_n 0, 1) := by decide +kernel
theorem f_205_83 : decode (mB 205) 83 = .ok (.iload 8, 2) := by decide +kernel
theorem f_205_85 : decode (mB 205) 85 = .ok (.bipush 7, 2) := by decide +kernel
theorem f_205_87 : decode (mB 205) 87 = .ok (.iload 6, 2) := by decide +kernel
theorem f_205_89 : decode (mB 205) 89 = .ok (.invokevirtual 132, 3) := by decide +kernel
theorem f_205_92 : decode (mB 205) 92 = .ok (.aload_n 0, 1) := by decide +kernel
theorem f_205_93 : decode (mB 205) 93 = .ok (.iload 8, 2) := by decide +kernel
theorem f_205_95 : decode (mB 205) 95 = .ok (.bipush 8, 2) := by decide +kernel
theorem f_205_97 : decode (mB 205) 97 = .ok (.iload 7, 2) := by decide +kernel
theorem f_205_99 : decode (mB 205) 99 = .ok (.invokevirtual 132, 3) := by decide +kernel
theorem f_205_102 : decode (mB 205) 102 = .ok (.aload_n 0, 1) := by decide +kernel
theorem f_205_103 : decode (mB 205) 103 = .ok (.iload 8, 2) := by decide +kernel
theorem f_205_105 : decode (mB 205) 105 = .ok (.bipush 9, 2) := by decide +kernel
theorem f_205_107 : decode (mB 205) 107 = .ok (.iconst 0, 1) := by decide +kernel
theorem f_205_108 : decode (mB 205) 108 = .ok (.invokevirtual 132, 3) := by decide +kernel
theorem f_205_111 : decode (mB 205) 111 = .ok (.iload 8, 2) := by decide +kernel
theorem f_205_113 : decode (mB 205) 113 = .ok (.ireturn, 1) := by decide +kernel
theorem f_206_0 : decode (mB 206) 0 = .ok (.aload_n 0, 1) := by decide +kernel
theorem f_206_1 : decode (mB 206) 1 = .ok (.getfield 7, 3) := by decide +kernel
theorem f_206_4 : decode (mB 206) 4 = .ok (.sipush 182, 3) := by decide +kernel
theorem f_206_7 : decode (mB 206) 7 = .ok (.bipush 10, 2) := by decide +kernel
theorem f_206_9 : decode (mB 206) 9 = .ok (.iload_n 1, 1) := by decide +kernel
theorem f_206_10 : decode (mB 206) 10 = .ok (.imul, 1) := by decide +kernel
theorem f_206_11 : decode (mB 206) 11 = .ok (.iadd, 1) := by decide +kernel
theorem f_206_12 : decode (mB 206) 12 = .ok (.iload_n 2, 1) := by decide +kernel
theorem f_206_13 : decode (mB 206) 13 = .ok (.iadd, 1) := by decide +kernel
theorem f_206_14 : decode (mB 206) 14 = .ok (.iload_n 3, 1) := by decide +kernel
theorem f_206_15 : decode (mB 206) 15 = .ok (.iastore, 1) := by decide +kernel
theorem f_206_16 : decode (mB 206) 16 = .ok (.return_, 1) := by decide +kernel
theorem f_207_0 : decode (mB 207) 0 = .ok (.aload_n 0, 1) := by decide +kernel
theorem f_207_1 : decode (mB 207) 1 = .ok (.iload_n 1, 1) := by decide +kernel
theorem f_207_2 : decode (mB 207) 2 = .ok (.invokevirtual 144, 3) := by decide +kernel
theorem f_207_5 : decode (mB 207) 5 = .ok (.ifCond .eq 13, 3) := by decide +kernel
theorem f_207_8 : decode (mB 207) 8 = .ok (.iload_n 2, 1) := by decide +kernel
theorem f_207_9 : decode (mB 207) 9 = .ok (.iconst 0, 1) := by decide +kernel
theorem f_207_10 : decode (mB 207) 10 = .ok (.bipush 6, 2) := by decide +kernel
theorem f_207_12 : decode (mB 207) 12 = .ok (.invokestatic 69, 3) := by decide +kernel
theorem f_207_15 : decode (mB 207) 15 = .ok (.ifCond .ne 10, 3) := by decide +kernel
theorem f_207_18 : decode (mB 207) 18 = .ok (.aload_n 0, 1) := by decide +kernel
theorem f_207_19 : decode (mB 207) 19 = .ok (.ldc 77, 2) := by decide +kernel
theorem f_207_21 : decode (mB 207) 21 = .ok (.invokevirtual 78, 3) := by decide +kernel
theorem f_207_24 : decode (mB 207) 24 = .ok (.ireturn, 1) := by decide +kernel
theorem f_207_25 : decode (mB 207) 25 = .ok (.aload_n 0, 1) := by decide +kernel
theorem f_207_26 : decode (mB 207) 26 = .ok (.iload_n 1, 1) := by decide +kernel
theorem f_207_27 : decode (mB 207) 27 = .ok (.iconst 0, 1) := by decide +kernel
theorem f_207_28 : decode (mB 207) 28 = .ok (.invokevirtual 98, 3) := by decide +kernel
theorem f_207_31 : decode (mB 207) 31 = .ok (.iload_n 2, 1) := by decide +kernel
theorem f_207_32 : decode (mB 207) 32 = .ok (.invokestatic 147, 3) := by decide +kernel
theorem f_207_35 : decode (mB 207) 35 = .ok (.ifCond .eq 7, 3) := by decide +kernel
theorem f_207_38 : decode (mB 207) 38 = .ok (.iload_n 1, 1) := by decide +kernel
theorem f_207_39 : decode (mB 207) 39 = .ok (.goto 9, 3) := by decide +kernel
theorem f_207_42 : decode (mB 207) 42 = .ok (.aload_n 0, 1) := by decide +kernel
theorem f_207_43 : decode (mB 207) 43 = .ok (.ldc 150, 2) := by decide +kernel
theorem f_207_45 : decode (mB 207) 45 = .ok (.invokevirtual 78, 3) := by decide +kernel
theorem f_207_48 : decode (mB 207) 48 = .ok (.ireturn, 1) := by decide +kernel
theorem f_208_0 : decode (mB 208) 0 = .ok (.iload_n 1, 1) := by decide +kernel
theorem f_208_1 : decode (mB 208) 1 = .ok (.iconst 0, 1) := by decide +kernel
theorem f_208_2 : decode (mB 208) 2 = .ok (.aload_n 0, 1) := by decide +kernel
theorem f_208_3 : decode (mB 208) 3 = .ok (.getfield 7, 3) := by decide +kernel
theorem f_208_6 : decode (mB 208) 6 = .ok (.iconst 2, 1) := by decide +kernel
theorem f_208_7 : decode (mB 208) 7 = .ok (.iaload, 1) := by decide +kernel
theorem f_208_8 : decode (mB 208) 8 = .ok (.iconst 1, 1) := by decide +kernel
theorem f_208_9 : decode (mB 208) 9 = .ok (.isub, 1) := by decide +kernel
theorem f_208_10 : decode (mB 208) 10 = .ok (.invokestatic 69, 3) := by decide +kernel
theorem f_208_13 : decode (mB 208) 13 = .ok (.ireturn, 1) := by decide +kernel
theorem f_209_0 : decode (mB 209) 0 = .ok (.iload_n 1, 1) := by decide +kernel
theorem f_209_1 : decode (mB 209) 1 = .ok (.ifCond .eq 45, 3) := by decide +kernel
theorem f_209_4 : decode (mB 209) 4 = .ok (.iload_n 0, 1) := by decide +kernel
theorem f_209_5 : decode (mB 209) 5 = .ok (.iload_n 1, 1) := by decide +kernel
theorem f_209_6 : decode (mB 209) 6 = .ok (.if_icmp .eq 40, 3) := by decide +kernel
theorem f_209_9 : decode (mB 209) 9 = .ok (.iload_n 1, 1) := by decide +kernel
theorem f_209_10 : decode (mB 209) 10 = .ok (.iconst 1, 1) := by decide +kernel
theorem f_209_11 : decode (mB 209) 11 = .ok (.if_icmp .ne 14, 3) := by decide +kernel
theorem f_209_14 : decode (mB 209) 14 = .ok (.iload_n 0, 1) := by decide +kernel
theorem f_209_15 : decode (mB 209) 15 = .ok (.iconst 2, 1) := by decide +kernel
theorem f_209_16 : decode (mB 209) 16 = .ok (.if_icmp .eq 30, 3) := by decide +kernel
theorem f_209_19 : decode (mB 209) 19 = .ok (.iload_n 0, 1) := by decide +kernel
theorem f_209_20 : decode (mB 209) 20 = .ok (.bipush 6, 2) := by decide +kernel
theorem f_209_22 : decode (mB 209) 22 = .ok (.if_icmp .eq 24, 3) := by decide +kernel
theorem f_209_25 : decode (mB 209) 25 = .ok (.iload_n 1, 1) := by decide +kernel
theorem f_209_26 : decode (mB 209) 26 = .ok (.iconst 2, 1) := by decide +kernel
theorem f_209_27 : decode (mB 209) 27 = .ok (.if_icmp .ne 9, 3) := by decide +kernel
theorem f_209_30 : decode (mB 209) 30 = .ok (.iload_n 0, 1) := by decide +kernel
theorem f_209_31 : decode (mB 209) 31 = .ok (.bipush 6, 2) := by decide +kernel
theorem f_209_33 : decode (mB 209) 33 = .ok (.if_icmp .eq 13, 3) := by decide +kernel
theorem f_209_36 : decode (mB 209) 36 = .ok (.iload_n 1, 1) := by decide +kernel
theorem f_209_37 : decode (mB 209) 37 = .ok (.iconst 3, 1) := by decide +kernel
theorem f_209_38 : decode (mB 209) 38 = .ok (.if_icmp .ne 12, 3) := by decide +kernel
theorem f_209_41 : decode (mB 209) 41 = .ok (.iload_n 0, 1) := by decide +kernel
theorem f_209_42 : decode (mB 209) 42 = .ok (.iconst 4, 1) := by decide +kernel
theorem f_209_43 : decode (mB 209) 43 = .ok (.if_icmp .ne 7, 3) := by decide +kernel
theorem f_209_46 : decode (mB 209) 46 = .ok (.iconst 1, 1) := by decide +kernel
theorem f_209_47 : decode (mB 209) 47 = .ok (.goto 4, 3) := by decide +kernel
theorem f_209_50 : decode (mB 209) 50 = .ok (.iconst 0, 1) := by decide +kernel
theorem f_209_51 : decode (mB 209) 51 = .ok (.ireturn, 1) := by decide +kernel
theorem f_210_0 : decode (mB 210) 0 = .ok (.aload_n 0, 1) := by decide +kernel
theorem f_210_1 : decode (mB 210) 1 = .ok (.iload_n 1, 1) := by decide +kernel
theorem f_210_2 : decode (mB 210) 2 = .ok (.invokevirtual 144, 3) := by decide +kernel
theorem f_210_5 : decode (mB 210) 5 = .ok (.ifCond .eq 12, 3) := by decide +kernel
theorem f_210_8 : decode (mB 210) 8 = .ok (.iload_n 2, 1) := by decide +kernel
theorem f_210_9 : decode (mB 210) 9 = .ok (.iconst 0, 1) := by decide +kernel
theorem f_210_10 : decode (mB 210) 10 = .ok (.iconst 2, 1) := by decide +kernel
theorem f_210_11 : decode (mB 210) 11 = .ok (.invokestatic 69, 3) := by decide +kernel
theorem f_210_14 : decode (mB 210) 14 = .ok (.ifCond .ne 10, 3) := by decide +kernel
theorem f_210_17 : decode (mB 210) 17 = .ok (.aload_n 0, 1) := by decide +kernel
theorem f_210_18 : decode (mB 210) 18 = .ok (.ldc 77, 2) := by decide +kernel
theorem f_210_20 : decode (mB 210) 20 = .ok (.invokevirtual 78, 3) := by decide +kernel
theorem f_210_23 : decode (mB 210) 23 = .ok (.ireturn, 1) := by decide +kernel
theorem f_210_24 : decode (mB 210) 24 = .ok (.aload_n 0, 1) := by decide +kernel
theorem f_210_25 : decode (mB 210) 25 = .ok (.iload_n 1, 1) := by decide +kernel
theorem f_210_26 : decode (mB 210) 26 = .ok (.bipush 8, 2) := by decide +kernel
theorem f_210_28 : decode (mB 210) 28 = .ok (.invokevirtual 98, 3) := by decide +kernel
theorem f_210_31 : decode (mB 210) 31 = .ok (.istore_n 3, 1) := by decide +kernel
theorem f_210_32 : decode (mB 210) 32 = .ok (.aload_n 0, 1) := by decide +kernel
theorem f_210_33 : decode (mB 210) 33 = .ok (.iload_n 1, 1) := by decide +kernel
theorem f_210_34 : decode (mB 210) 34 = .ok (.bipush 8, 2) := by decide +kernel
theorem f_210_36 : decode (mB 210) 36 = .ok (.iload_n 2, 1) := by decide +kernel
theorem f_210_37 : decode (mB 210) 37 = .ok (.invokevirtual 132, 3) := by decide +kernel
theorem f_210_40 : decode (mB 210) 40 = .ok (.iload_n 3, 1) := by decide +kernel
theorem f_210_41 : decode (mB 210) 41 = .ok (.ireturn, 1) := by decide +kernel
theorem f_211_0 : decode (mB 211) 0 = .ok (.aload_n 0, 1) := by decide +kernel
theorem f_211_1 : decode (mB 211) 1 = .ok (.iload_n 1, 1) := by decide +kernel
theorem f_211_2 : decode (mB 211) 2 = .ok (.invokevirtual 144, 3) := by decide +kernel
theorem f_211_5 : decode (mB 211) 5 = .ok (.ifCond .eq 14, 3) := by decide +kernel
theorem f_211_8 : decode (mB 211) 8 = .ok (.iload_n 2, 1) := by decide +kernel
theorem f_211_9 : decode (mB 211) 9 = .ok (.iconst 1, 1) := by decide +kernel
theorem f_211_10 : decode (mB 211) 10 = .ok (.sipush 9999, 3) := by decide +kernel
theorem f_211_13 : decode (mB 211) 13 = .ok (.invokestatic 69, 3) := by decide +kernel
theorem f_211_16 : decode (mB 211) 16 = .ok (.ifCond .ne 10, 3) := by decide +kernel
theorem f_211_19 : decode (mB 211) 19 = .ok (.aload_n 0, 1) := by decide +kernel
theorem f_211_20 : decode (mB 211) 20 = .ok (.ldc 77, 2) := by decide +kernel
theorem f_211_22 : decode (mB 211) 22 = .ok (.invokevirtual 78, 3) := by decide +kernel
theorem f_211_25 : decode (mB 211) 25 = .ok (.ireturn, 1) := by decide +kernel
theorem f_211_26 : decode (mB 211) 26 = .ok (.aload_n 0, 1) := by decide +kernel
theorem f_211_27 : decode (mB 211) 27 = .ok (.iload_n 1, 1) := by decide +kernel
theorem f_211_28 : decode (mB 211) 28 = .ok (.invokevirtual 95, 3) := by decide +kernel
theorem f_211_31 : decode (mB 211) 31 = .ok (.ifCond .ne 10, 3) := by decide +kernel
theorem f_211_34 : decode (mB 211) 34 = .ok (.aload_n 0, 1) := by decide +kernel
theorem f_211_35 : decode (mB 211) 35 = .ok (.ldc 131, 2) := by decide +kernel
theorem f_211_37 : decode (mB 211) 37 = .ok (.invokevirtual 78, 3) := by decide +kernel
theorem f_211_40 : decode (mB 211) 40 = .ok (.ireturn, 1) := by decide +kernel
theorem f_211_41 : decode (mB 211) 41 = .ok (.iload_n 2, 1) := by decide +kernel
theorem f_211_42 : decode (mB 211) 42 = .ok (.aload_n 0, 1) := by decide +kernel
theorem f_211_43 : decode (mB 211) 43 = .ok (.iload_n 1, 1) := by decide +kernel
theorem f_211_44 : decode (mB 211) 44 = .ok (.invokevirtual 101, 3) := by decide +kernel
theorem f_211_47 : decode (mB 211) 47 = .ok (.if_icmp .le 10, 3) := by decide +kernel
theorem f_211_50 : decode (mB 211) 50 = .ok (.aload_n 0, 1) := by decide +kernel
theorem f_211_51 : decode (mB 211) 51 = .ok (.ldc 135, 2) := by decide +kernel
theorem f_211_53 : decode (mB 211) 53 = .ok (.invokevirtual 78, 3) := by decide +kernel
theorem f_211_56 : decode (mB 211) 56 = .ok (.ireturn, 1) := by decide +kernel
theorem f_211_57 : decode (mB 211) 57 = .ok (.aload_n 0, 1) := by decide +kernel
theorem f_211_58 : decode (mB 211) 58 = .ok (.aload_n 0, 1) := by decide +kernel
theorem f_211_59 : decode (mB 211) 59 = .ok (.iload_n 1, 1) := by decide +kernel
theorem f_211_60 : decode (mB 211) 60 = .ok (.iconst 1, 1) := by decide +kernel
theorem f_211_61 : decode (mB 211) 61 = .ok (.invokevirtual 98, 3) := by decide +kernel
theorem f_211_64 : decode (mB 211) 64 = .ok (.bipush 6, 2) := by decide +kernel
theorem f_211_66 : decode (mB 211) 66 = .ok (.invokevirtual 73, 3) := by decide +kernel
theorem f_211_69 : decode (mB 211) 69 = .ok (.iload_n 2, 1) := by decide +kernel
theorem f_211_70 : decode (mB 211) 70 = .ok (.if_icmp .ge 10, 3) := by decide +kernel
theorem f_211_73 : decode (mB 211) 73 = .ok (.aload_n 0, 1) := by decide +kernel
theorem f_211_74 : decode (mB 211) 74 = .ok (.ldc 139, 2) := by decide +kernel
theorem f_211_76 : decode (mB 211) 76 = .ok (.invokevirtual 78, 3) := by decide +kernel
theorem f_211_79 : decode (mB 211) 79 = .ok (.ireturn, 1) := by decide +kernel
theorem f_211_80 : decode (mB 211) 80 = .ok (.aload_n 0, 1) := by decide +kernel
theorem f_211_81 : decode (mB 211) 81 = .ok (.iload_n 1, 1) := by decide +kernel
theorem f_211_82 : decode (mB 211) 82 = .ok (.iload_n 2, 1) := by decide +kernel
theorem f_211_83 : decode (mB 211) 83 = .ok (.invokevirtual 158, 3) := by decide +kernel
theorem f_211_86 : decode (mB 211) 86 = .ok (.aload_n 0, 1) := by decide +kernel
theorem f_211_87 : decode (mB 211) 87 = .ok (.iload_n 1, 1) := by decide +kernel
theorem f_211_88 : decode (mB 211) 88 = .ok (.invokevirtual 101, 3) := by decide +kernel
theorem f_211_91 : decode (mB 211) 91 = .ok (.ireturn, 1) := by decide +kernel
theorem f_212_0 : decode (mB 212) 0 = .ok (.aload_n 0, 1) := by decide +kernel
theorem f_212_1 : decode (mB 212) 1 = .ok (.aload_n 0, 1) := by decide +kernel
theorem f_212_2 : decode (mB 212) 2 = .ok (.iload_n 1, 1) := by decide +kernel
theorem f_212_3 : decode (mB 212) 3 = .ok (.iconst 1, 1) := by decide +kernel
theorem f_212_4 : decode (mB 212) 4 = .ok (.invokevirtual 98, 3) := by decide +kernel
theorem f_212_7 : decode (mB 212) 7 = .ok (.bipush 6, 2) := by decide +kernel
theorem f_212_9 : decode (mB 212) 9 = .ok (.aload_n 0, 1) := by decide +kernel
theorem f_212_10 : decode (mB 212) 10 = .ok (.aload_n 0, 1) := by decide +kernel
theorem f_212_11 : decode (mB 212) 11 = .ok (.iload_n 1, 1) := by decide +kernel
theorem f_212_12 : decode (mB 212) 12 = .ok (.iconst 1, 1) := by decide +kernel
theorem f_212_13 : decode (mB 212) 13 = .ok (.invokevirtual 98, 3) := by decide +kernel
theorem f_212_16 : decode (mB 212) 16 = .ok (.bipush 6, 2) := by decide +kernel
theorem f_212_18 : decode (mB 212) 18 = .ok (.invokevirtual 73, 3) := by decide +kernel
theorem f_212_21 : decode (mB 212) 21 = .ok (.iload_n 2, 1) := by decide +kernel
theorem f_212_22 : decode (mB 212) 22 = .ok (.isub, 1) := by decide +kernel
theorem f_212_23 : decode (mB 212) 23 = .ok (.invokevirtual 83, 3) := by decide +kernel
theorem f_212_26 : decode (mB 212) 26 = .ok (.aload_n 0, 1) := by decide +kernel
theorem f_212_27 : decode (mB 212) 27 = .ok (.aload_n 0, 1) := by decide +kernel
theorem f_212_28 : decode (mB 212) 28 = .ok (.iload_n 1, 1) := by decide +kernel
theorem f_212_29 : decode (mB 212) 29 = .ok (.iconst 2, 1) := by decide +kernel
theorem f_212_30 : decode (mB 212) 30 = .ok (.invokevirtual 98, 3) := by decide +kernel
theorem f_212_33 : decode (mB 212) 33 = .ok (.iload_n 2, 1) := by decide +kernel
theorem f_212_34 : decode (mB 212) 34 = .ok (.invokevirtual 151, 3) := by decide +kernel
theorem f_212_37 : decode (mB 212) 37 = .ok (.aload_n 0, 1) := by decide +kernel
theorem f_212_38 : decode (mB 212) 38 = .ok (.iload_n 1, 1) := by decide +kernel
theorem f_212_39 : decode (mB 212) 39 = .ok (.iconst 4, 1) := by decide +kernel
theorem f_212_40 : decode (mB 212) 40 = .ok (.aload_n 0, 1) := by decide +kernel
theorem f_212_41 : decode (mB 212) 41 = .ok (.iload_n 1, 1) := by decide +kernel
theorem f_212_42 : decode (mB 212) 42 = .ok (.iconst 4, 1) := by decide +kernel
theorem f_212_43 : decode (mB 212) 43 = .ok (.invokevirtual 98, 3) := by decide +kernel
theorem f_212_46 : decode (mB 212) 46 = .ok (.iload_n 2, 1) := by decide +kernel
theorem f_212_47 : decode (mB 212) 47 = .ok (.iadd, 1) := by decide +kernel
theorem f_212_48 : decode (mB 212) 48 = .ok (.invokevirtual 132, 3) := by decide +kernel
theorem f_212_51 : decode (mB 212) 51 = .ok (.aload_n 0, 1) := by decide +kernel
theorem f_212_52 : decode (mB 212) 52 = .ok (.iload_n 1, 1) := by decide +kernel
theorem f_212_53 : decode (mB 212) 53 = .ok (.invokevirtual 101, 3) := by decide +kernel
theorem f_212_56 : decode (mB 212) 56 = .ok (.ifCond .ne 9, 3) := by decide +kernel
theorem f_212_59 : decode (mB 212) 59 = .ok (.aload_n 0, 1) := by decide +kernel
theorem f_212_60 : decode (mB 212) 60 = .ok (.iload_n 1, 1) := by decide +kernel
theorem f_212_61 : decode (mB 212) 61 = .ok (.iconst 1, 1) := by decide +kernel
theorem f_212_62 : decode (mB 212) 62 = .ok (.invokevirtual 155, 3) := by decide +kernel
theorem f_212_65 : decode (mB 212) 65 = .ok (.return_, 1) := by decide +kernel
theorem f_213_0 : decode (mB 213) 0 = .ok (.aload_n 0, 1) := by decide +kernel
theorem f_213_1 : decode (mB 213) 1 = .ok (.iload_n 1, 1) := by decide +kernel
theorem f_213_2 : decode (mB 213) 2 = .ok (.invokevirtual 91, 3) := by decide +kernel
theorem f_213_5 : decode (mB 213) 5 = .ok (.ifCond .eq 17, 3) := by decide +kernel
theorem f_213_8 : decode (mB 213) 8 = .ok (.sipush 9999, 3) := by decide +kernel
theorem f_213_11 : decode (mB 213) 11 = .ok (.aload_n 0, 1) := by decide +kernel
theorem f_213_12 : decode (mB 213) 12 = .ok (.iload_n 1, 1) := by decide +kernel
theorem f_213_13 : decode (mB 213) 13 = .ok (.bipush 6, 2) := by decide +kernel
theorem f_213_15 : decode (mB 213) 15 = .ok (.invokevirtual 73, 3) := by decide +kernel
theorem f_213_18 : decode (mB 213) 18 = .ok (.isub, 1) := by decide +kernel
theorem f_213_19 : decode (mB 213) 19 = .ok (.goto 4, 3) := by decide +kernel
theorem f_213_22 : decode (mB 213) 22 = .ok (.iconst 0, 1) := by decide +kernel
theorem f_213_23 : decode (mB 213) 23 = .ok (.istore_n 3, 1) := by decide +kernel
theorem f_213_24 : decode (mB 213) 24 = .ok (.iload_n 2, 1) := by decide +kernel
theorem f_213_25 : decode (mB 213) 25 = .ok (.iload_n 3, 1) := by decide +kernel
theorem f_213_26 : decode (mB 213) 26 = .ok (.if_icmp .ge 7, 3) := by decide +kernel
theorem f_213_29 : decode (mB 213) 29 = .ok (.iload_n 2, 1) := by decide +kernel
theorem f_213_30 : decode (mB 213) 30 = .ok (.goto 4, 3) := by decide +kernel
theorem f_213_33 : decode (mB 213) 33 = .ok (.iload_n 3, 1) := by decide +kernel
theorem f_213_34 : decode (mB 213) 34 = .ok (.istore 4, 2) := by decide +kernel
theorem f_213_36 : decode (mB 213) 36 = .ok (.aload_n 0, 1) := by decide +kernel
theorem f_213_37 : decode (mB 213) 37 = .ok (.iload_n 1, 1) := by decide +kernel
theorem f_213_38 : decode (mB 213) 38 = .ok (.bipush 6, 2) := by decide +kernel
theorem f_213_40 : decode (mB 213) 40 = .ok (.aload_n 0, 1) := by decide +kernel
theorem f_213_41 : decode (mB 213) 41 = .ok (.iload_n 1, 1) := by decide +kernel
theorem f_213_42 : decode (mB 213) 42 = .ok (.bipush 6, 2) := by decide +kernel
theorem f_213_44 : decode (mB 213) 44 = .ok (.invokevirtual 73, 3) := by decide +kernel
theorem f_213_47 : decode (mB 213) 47 = .ok (.iload 4, 2) := by decide +kernel
theorem f_213_49 : decode (mB 213) 49 = .ok (.iadd, 1) := by decide +kernel
theorem f_213_50 : decode (mB 213) 50 = .ok (.invokevirtual 83, 3) := by decide +kernel
theorem f_213_53 : decode (mB 213) 53 = .ok (.aload_n 0, 1) := by decide +kernel
theorem f_213_54 : decode (mB 213) 54 = .ok (.getfield 7, 3) := by decide +kernel
theorem f_213_57 : decode (mB 213) 57 = .ok (.bipush 6, 2) := by decide +kernel
theorem f_213_59 : decode (mB 213) 59 = .ok (.dup2, 1) := by decide +kernel
theorem f_213_60 : decode (mB 213) 60 = .ok (.iaload, 1) := by decide +kernel
theorem f_213_61 : decode (mB 213) 61 = .ok (.iload_n 2, 1) := by decide +kernel
theorem f_213_62 : decode (mB 213) 62 = .ok (.iload 4, 2) := by decide +kernel
theorem f_213_64 : decode (mB 213) 64 = .ok (.isub, 1) := by decide +kernel
theorem f_213_65 : decode (mB 213) 65 = .ok (.iadd, 1) := by decide +kernel
theorem f_213_66 : decode (mB 213) 66 = .ok (.iastore, 1) := by decide +kernel
theorem f_213_67 : decode (mB 213) 67 = .ok (.return_, 1) := by decide +kernel
theorem f_214_0 : decode (mB 214) 0 = .ok (.aload_n 0, 1) := by decide +kernel
theorem f_214_1 : decode (mB 214) 1 = .ok (.iload_n 1, 1) := by decide +kernel
theorem f_214_2 : decode (mB 214) 2 = .ok (.bipush 7, 2) := by decide +kernel
theorem f_214_4 : decode (mB 214) 4 = .ok (.invokevirtual 98, 3) := by decide +kernel
theorem f_214_7 : decode (mB 214) 7 = .ok (.istore_n 3, 1) := by decide +kernel
theorem f_214_8 : decode (mB 214) 8 = .ok (.aload_n 0, 1) := by decide +kernel
theorem f_214_9 : decode (mB 214) 9 = .ok (.iload_n 1, 1) := by decide +kernel
theorem f_214_10 : decode (mB 214) 10 = .ok (.bipush 9, 2) := by decide +kernel
theorem f_214_12 : decode (mB 214) 12 = .ok (.iload_n 2, 1) := by decide +kernel
theorem f_214_13 : decode (mB 214) 13 = .ok (.invokevirtual 132, 3) := by decide +kernel
theorem f_214_16 : decode (mB 214) 16 = .ok (.aload_n 0, 1) := by decide +kernel
theorem f_214_17 : decode (mB 214) 17 = .ok (.iload_n 1, 1) := by decide +kernel
theorem f_214_18 : decode (mB 214) 18 = .ok (.iconst 0, 1) := by decide +kernel
theorem f_214_19 : decode (mB 214) 19 = .ok (.invokevirtual 98, 3) := by decide +kernel
theorem f_214_22 : decode (mB 214) 22 = .ok (.bipush 6, 2) := by decide +kernel
theorem f_214_24 : decode (mB 214) 24 = .ok (.if_icmp .ne 16, 3) := by decide +kernel
theorem f_214_27 : decode (mB 214) 27 = .ok (.aload_n 0, 1) := by decide +kernel
theorem f_214_28 : decode (mB 214) 28 = .ok (.aload_n 0, 1) := by decide +kernel
theorem f_214_29 : decode (mB 214) 29 = .ok (.iload_n 1, 1) := by decide +kernel
theorem f_214_30 : decode (mB 214) 30 = .ok (.iconst 1, 1) := by decide +kernel
theorem f_214_31 : decode (mB 214) 31 = .ok (.invokevirtual 98, 3) := by decide +kernel
theorem f_214_34 : decode (mB 214) 34 = .ok (.bipush 8, 2) := by decide +kernel
theorem f_214_36 : decode (mB 214) 36 = .ok (.iconst (-1), 1) := by decide +kernel
theorem f_214_37 : decode (mB 214) 37 = .ok (.invokevirtual 83, 3) := by decide +kernel
theorem f_214_40 : decode (mB 214) 40 = .ok (.iload_n 2, 1) := by decide +kernel
theorem f_214_41 : decode (mB 214) 41 = .ok (.iconst 1, 1) := by decide +kernel
theorem f_214_42 : decode (mB 214) 42 = .ok (.if_icmp .ne 58, 3) := by decide +kernel
theorem f_214_45 : decode (mB 214) 45 = .ok (.aload_n 0, 1) := by decide +kernel
theorem f_214_46 : decode (mB 214) 46 = .ok (.iload_n 1, 1) := by decide +kernel
theorem f_214_47 : decode (mB 214) 47 = .ok (.iconst 0, 1) := by decide +kernel
theorem f_214_48 : decode (mB 214) 48 = .ok (.invokevirtual 98, 3) := by decide +kernel
theorem f_214_51 : decode (mB 214) 51 = .ok (.iconst 3, 1) := by decide +kernel
theorem f_214_52 : decode (mB 214) 52 = .ok (.if_icmp .eq 13, 3) := by decide +kernel
theorem f_214_55 : decode (mB 214) 55 = .ok (.aload_n 0, 1) := by decide +kernel
theorem f_214_56 : decode (mB 214) 56 = .ok (.iload_n 1, 1) := by decide +kernel
theorem f_214_57 : decode (mB 214) 57 = .ok (.iconst 0, 1) := by decide +kernel
theorem f_214_58 : decode (mB 214) 58 = .ok (.invokevirtual 98, 3) := by decide +kernel
theorem f_214_61 : decode (mB 214) 61 = .ok (.iconst 4, 1) := by decide +kernel
theorem f_214_62 : decode (mB 214) 62 = .ok (.if_icmp .ne 38, 3) := by decide +kernel
theorem f_214_65 : decode (mB 214) 65 = .ok (.aload_n 0, 1) := by decide +kernel
theorem f_214_66 : decode (mB 214) 66 = .ok (.iload_n 3, 1) := by decide +kernel
theorem f_214_67 : decode (mB 214) 67 = .ok (.iconst 2, 1) := by decide +kernel
theorem f_214_68 : decode (mB 214) 68 = .ok (.invokevirtual 111, 3) := by decide +kernel
theorem f_214_71 : decode (mB 214) 71 = .ok (.aload_n 0, 1) := by decide +kernel
theorem f_214_72 : decode (mB 214) 72 = .ok (.iload_n 1, 1) := by decide +kernel
theorem f_214_73 : decode (mB 214) 73 = .ok (.iconst 2, 1) := by decide +kernel
theorem f_214_74 : decode (mB 214) 74 = .ok (.invokevirtual 98, 3) := by decide +kernel
theorem f_214_77 : decode (mB 214) 77 = .ok (.if_icmp .ne 23, 3) := by decide +kernel
theorem f_214_80 : decode (mB 214) 80 = .ok (.aload_n 0, 1) := by decide +kernel
theorem f_214_81 : decode (mB 214) 81 = .ok (.getfield 7, 3) := by decide +kernel
theorem f_214_84 : decode (mB 214) 84 = .ok (.sipush 150, 3) := by decide +kernel
theorem f_214_87 : decode (mB 214) 87 = .ok (.iconst 4, 1) := by decide +kernel
theorem f_214_88 : decode (mB 214) 88 = .ok (.iload_n 3, 1) := by decide +kernel
theorem f_214_89 : decode (mB 214) 89 = .ok (.imul, 1) := by decide +kernel
theorem f_214_90 : decode (mB 214) 90 = .ok (.iadd, 1) := by decide +kernel
theorem f_214_91 : decode (mB 214) 91 = .ok (.iconst 2, 1) := by decide +kernel
theorem f_214_92 : decode (mB 214) 92 = .ok (.iadd, 1) := by decide +kernel
theorem f_214_93 : decode (mB 214) 93 = .ok (.aload_n 0, 1) := by decide +kernel
theorem f_214_94 : decode (mB 214) 94 = .ok (.iload_n 1, 1) := by decide +kernel
theorem f_214_95 : decode (mB 214) 95 = .ok (.iconst 1, 1) := by decide +kernel
theorem f_214_96 : decode (mB 214) 96 = .ok (.invokevirtual 98, 3) := by decide +kernel
theorem f_214_99 : decode (mB 214) 99 = .ok (.iastore, 1) := by decide +kernel
theorem f_214_100 : decode (mB 214) 100 = .ok (.return_, 1) := by decide +kernel
theorem f_215_0 : decode (mB 215) 0 = .ok (.aload_n 0, 1) := by decide +kernel
theorem f_215_1 : decode (mB 215) 1 = .ok (.iload_n 1, 1) := by decide +kernel
theorem f_215_2 : decode (mB 215) 2 = .ok (.invokevirtual 144, 3) := by decide +kernel
theorem f_215_5 : decode (mB 215) 5 = .ok (.ifCond .ne 10, 3) := by decide +kernel
theorem f_215_8 : decode (mB 215) 8 = .ok (.aload_n 0, 1) := by decide +kernel
theorem f_215_9 : decode (mB 215) 9 = .ok (.ldc 77, 2) := by decide +kernel
theorem f_215_11 : decode (mB 215) 11 = .ok (.invokevirtual 78, 3) := by decide +kernel
theorem f_215_14 : decode (mB 215) 14 = .ok (.ireturn, 1) := by decide +kernel
theorem f_215_15 : decode (mB 215) 15 = .ok (.aload_n 0, 1) := by decide +kernel
theorem f_215_16 : decode (mB 215) 16 = .ok (.iload_n 1, 1) := by decide +kernel
theorem f_215_17 : decode (mB 215) 17 = .ok (.invokevirtual 95, 3) := by decide +kernel
theorem f_215_20 : decode (mB 215) 20 = .ok (.ifCond .ne 10, 3) := by decide +kernel
theorem f_215_23 : decode (mB 215) 23 = .ok (.aload_n 0, 1) := by decide +kernel
theorem f_215_24 : decode (mB 215) 24 = .ok (.ldc 131, 2) := by decide +kernel
theorem f_215_26 : decode (mB 215) 26 = .ok (.invokevirtual 78, 3) := by decide +kernel
theorem f_215_29 : decode (mB 215) 29 = .ok (.ireturn, 1) := by decide +kernel
theorem f_215_30 : decode (mB 215) 30 = .ok (.aload_n 0, 1) := by decide +kernel
theorem f_215_31 : decode (mB 215) 31 = .ok (.iload_n 1, 1) := by decide +kernel
theorem f_215_32 : decode (mB 215) 32 = .ok (.iconst 3, 1) := by decide +kernel
theorem f_215_33 : decode (mB 215) 33 = .ok (.invokevirtual 155, 3) := by decide +kernel
theorem f_215_36 : decode (mB 215) 36 = .ok (.aload_n 0, 1) := by decide +kernel
theorem f_215_37 : decode (mB 215) 37 = .ok (.iload_n 1, 1) := by decide +kernel
theorem f_215_38 : decode (mB 215) 38 = .ok (.invokevirtual 101, 3) := by decide +kernel
theorem f_215_41 : decode (mB 215) 41 = .ok (.ireturn, 1) := by decide +kernel
theorem f_216_0 : decode (mB 216) 0 = .ok (.aload_n 0, 1) := by decide +kernel
theorem f_216_1 : decode (mB 216) 1 = .ok (.iload_n 1, 1) := by decide +kernel
theorem f_216_2 : decode (mB 216) 2 = .ok (.invokevirtual 144, 3) := by decide +kernel
theorem f_216_5 : decode (mB 216) 5 = .ok (.ifCond .eq 22, 3) := by decide +kernel
theorem f_216_8 : decode (mB 216) 8 = .ok (.iload_n 2, 1) := by decide +kernel
theorem f_216_9 : decode (mB 216) 9 = .ok (.iconst 0, 1) := by decide +kernel
theorem f_216_10 : decode (mB 216) 10 = .ok (.bipush 9, 2) := by decide +kernel
theorem f_216_12 : decode (mB 216) 12 = .ok (.invokestatic 69, 3) := by decide +kernel
theorem f_216_15 : decode (mB 216) 15 = .ok (.ifCond .eq 12, 3) := by decide +kernel
theorem f_216_18 : decode (mB 216) 18 = .ok (.aload_n 0, 1) := by decide +kernel
theorem f_216_19 : decode (mB 216) 19 = .ok (.iload_n 1, 1) := by decide +kernel
theorem f_216_20 : decode (mB 216) 20 = .ok (.iload_n 2, 1) := by decide +kernel
theorem f_216_21 : decode (mB 216) 21 = .ok (.invokevirtual 98, 3) := by decide +kernel
theorem f_216_24 : decode (mB 216) 24 = .ok (.goto 9, 3) := by decide +kernel
theorem f_216_27 : decode (mB 216) 27 = .ok (.aload_n 0, 1) := by decide +kernel
theorem f_216_28 : decode (mB 216) 28 = .ok (.ldc 77, 2) := by decide +kernel
theorem f_216_30 : decode (mB 216) 30 = .ok (.invokevirtual 78, 3) := by decide +kernel
theorem f_216_33 : decode (mB 216) 33 = .ok (.ireturn, 1) := by decide +kernel
theorem f_217_0 : decode (mB 217) 0 = .ok (.iload_n 1, 1) := by decide +kernel
theorem f_217_1 : decode (mB 217) 1 = .ok (.invokestatic 161, 3) := by decide +kernel
theorem f_217_4 : decode (mB 217) 4 = .ok (.ifCond .eq 13, 3) := by decide +kernel
theorem f_217_7 : decode (mB 217) 7 = .ok (.iload_n 2, 1) := by decide +kernel
theorem f_217_8 : decode (mB 217) 8 = .ok (.iconst 0, 1) := by decide +kernel
theorem f_217_9 : decode (mB 217) 9 = .ok (.bipush 49, 2) := by decide +kernel
theorem f_217_11 : decode (mB 217) 11 = .ok (.invokestatic 69, 3) := by decide +kernel
theorem f_217_14 : decode (mB 217) 14 = .ok (.ifCond .ne 10, 3) := by decide +kernel
theorem f_217_17 : decode (mB 217) 17 = .ok (.aload_n 0, 1) := by decide +kernel
theorem f_217_18 : decode (mB 217) 18 = .ok (.ldc 77, 2) := by decide +kernel
theorem f_217_20 : decode (mB 217) 20 = .ok (.invokevirtual 78, 3) := by decide +kernel
theorem f_217_23 : decode (mB 217) 23 = .ok (.ireturn, 1) := by decide +kernel
theorem f_217_24 : decode (mB 217) 24 = .ok (.aload_n 0, 1) := by decide +kernel
theorem f_217_25 : decode (mB 217) 25 = .ok (.getfield 7, 3) := by decide +kernel
theorem f_217_28 : decode (mB 217) 28 = .ok (.bipush 7, 2) := by decide +kernel
theorem f_217_30 : decode (mB 217) 30 = .ok (.iload_n 1, 1) := by decide +kernel
theorem f_217_31 : decode (mB 217) 31 = .ok (.iadd, 1) := by decide +kernel
theorem f_217_32 : decode (mB 217) 32 = .ok (.iaload, 1) := by decide +kernel
theorem f_217_33 : decode (mB 217) 33 = .ok (.istore_n 3, 1) := by decide +kernel
theorem f_217_34 : decode (mB 217) 34 = .ok (.aload_n 0, 1) := by decide +kernel
theorem f_217_35 : decode (mB 217) 35 = .ok (.getfield 7, 3) := by decide +kernel
theorem f_217_38 : decode (mB 217) 38 = .ok (.bipush 7, 2) := by decide +kernel
theorem f_217_40 : decode (mB 217) 40 = .ok (.iload_n 1, 1) := by decide +kernel
theorem f_217_41 : decode (mB 217) 41 = .ok (.iadd, 1) := by decide +kernel
theorem f_217_42 : decode (mB 217) 42 = .ok (.iload_n 2, 1) := by decide +kernel
theorem f_217_43 : decode (mB 217) 43 = .ok (.iastore, 1) := by decide +kernel
theorem f_217_44 : decode (mB 217) 44 = .ok (.iload_n 3, 1) := by decide +kernel
theorem f_217_45 : decode (mB 217) 45 = .ok (.ireturn, 1) := by decide +kernel
theorem f_218_0 : decode (mB 218) 0 = .ok (.iload_n 0, 1) := by decide +kernel
theorem f_218_1 : decode (mB 218) 1 = .ok (.iconst 0, 1) := by decide +kernel
theorem f_218_2 : decode (mB 218) 2 = .ok (.iconst 1, 1) := by decide +kernel
theorem f_218_3 : decode (mB 218) 3 = .ok (.invokestatic 69, 3) := by decide +kernel
theorem f_218_6 : decode (mB 218) 6 = .ok (.ireturn, 1) := by decide +kernel
theorem f_219_0 : decode (mB 219) 0 = .ok (.iload_n 1, 1) := by decide +kernel
theorem f_219_1 : decode (mB 219) 1 = .ok (.invokestatic 161, 3) := by decide +kernel
theorem f_219_4 : decode (mB 219) 4 = .ok (.ifCond .eq 19, 3) := by decide +kernel
theorem f_219_7 : decode (mB 219) 7 = .ok (.iload_n 2, 1) := by decide +kernel
theorem f_219_8 : decode (mB 219) 8 = .ok (.invokestatic 164, 3) := by decide +kernel
theorem f_219_11 : decode (mB 219) 11 = .ok (.ifCond .eq 12, 3) := by decide +kernel
theorem f_219_14 : decode (mB 219) 14 = .ok (.aload_n 0, 1) := by decide +kernel
theorem f_219_15 : decode (mB 219) 15 = .ok (.iload_n 1, 1) := by decide +kernel
theorem f_219_16 : decode (mB 219) 16 = .ok (.iload_n 2, 1) := by decide +kernel
theorem f_219_17 : decode (mB 219) 17 = .ok (.invokevirtual 167, 3) := by decide +kernel
theorem f_219_20 : decode (mB 219) 20 = .ok (.goto 9, 3) := by decide +kernel
theorem f_219_23 : decode (mB 219) 23 = .ok (.aload_n 0, 1) := by decide +kernel
theorem f_219_24 : decode (mB 219) 24 = .ok (.ldc 77, 2) := by decide +kernel
theorem f_219_26 : decode (mB 219) 26 = .ok (.invokevirtual 78, 3) := by decide +kernel
theorem f_219_29 : decode (mB 219) 29 = .ok (.ireturn, 1) := by decide +kernel
theorem f_220_0 : decode (mB 220) 0 = .ok (.iload_n 0, 1) := by decide +kernel
theorem f_220_1 : decode (mB 220) 1 = .ok (.iconst 0, 1) := by decide +kernel
theorem f_220_2 : decode (mB 220) 2 = .ok (.sipush 400, 3) := by decide +kernel
theorem f_220_5 : decode (mB 220) 5 = .ok (.invokestatic 69, 3) := by decide +kernel
theorem f_220_8 : decode (mB 220) 8 = .ok (.ireturn, 1) := by decide +kernel
theorem f_221_0 : decode (mB 221) 0 = .ok (.bipush 50, 2) := by decide +kernel
theorem f_221_2 : decode (mB 221) 2 = .ok (.iload_n 2, 1) := by decide +kernel
theorem f_221_3 : decode (mB 221) 3 = .ok (.aload_n 0, 1) := by decide +kernel
theorem f_221_4 : decode (mB 221) 4 = .ok (.getfield 7, 3) := by decide +kernel
theorem f_221_7 : decode (mB 221) 7 = .ok (.bipush 7, 2) := by decide +kernel
theorem f_221_9 : decode (mB 221) 9 = .ok (.iload_n 1, 1) := by decide +kernel
theorem f_221_10 : decode (mB 221) 10 = .ok (.iadd, 1) := by decide +kernel
theorem f_221_11 : decode (mB 221) 11 = .ok (.iaload, 1) := by decide +kernel
theorem f_221_12 : decode (mB 221) 12 = .ok (.iadd, 1) := by decide +kernel
theorem f_221_13 : decode (mB 221) 13 = .ok (.bipush 50, 2) := by decide +kernel
theorem f_221_15 : decode (mB 221) 15 = .ok (.irem, 1) := by decide +kernel
theorem f_221_16 : decode (mB 221) 16 = .ok (.isub, 1) := by decide +kernel
theorem f_221_17 : decode (mB 221) 17 = .ok (.ireturn, 1) := by decide +kernel
theorem f_222_0 : decode (mB 222) 0 = .ok (.iload_n 1, 1) := by decide +kernel
theorem f_222_1 : decode (mB 222) 1 = .ok (.iconst 1, 1) := by decide +kernel
theorem f_222_2 : decode (mB 222) 2 = .ok (.bipush 8, 2) := by decide +kernel
theorem f_222_4 : decode (mB 222) 4 = .ok (.invokestatic 69, 3) := by decide +kernel
theorem f_222_7 : decode (mB 222) 7 = .ok (.ifCond .ne 10, 3) := by decide +kernel
theorem f_222_10 : decode (mB 222) 10 = .ok (.aload_n 0, 1) := by decide +kernel
theorem f_222_11 : decode (mB 222) 11 = .ok (.ldc 77, 2) := by decide +kernel
theorem f_222_13 : decode (mB 222) 13 = .ok (.invokevirtual 78, 3) := by decide +kernel
theorem f_222_16 : decode (mB 222) 16 = .ok (.ireturn, 1) := by decide +kernel
theorem f_222_17 : decode (mB 222) 17 = .ok (.aload_n 0, 1) := by decide +kernel
theorem f_222_18 : decode (mB 222) 18 = .ok (.getfield 170, 3) := by decide +kernel
theorem f_222_21 : decode (mB 222) 21 = .ok (.iload_n 1, 1) := by decide +kernel
theorem f_222_22 : decode (mB 222) 22 = .ok (.iadd, 1) := by decide +kernel
theorem f_222_23 : decode (mB 222) 23 = .ok (.sipush 200, 3) := by decide +kernel
theorem f_222_26 : decode (mB 222) 26 = .ok (.if_icmp .le 10, 3) := by decide +kernel
theorem f_222_29 : decode (mB 222) 29 = .ok (.aload_n 0, 1) := by decide +kernel
theorem f_222_30 : decode (mB 222) 30 = .ok (.ldc 82, 2) := by decide +kernel
theorem f_222_32 : decode (mB 222) 32 = .ok (.invokevirtual 78, 3) := by decide +kernel
theorem f_222_35 : decode (mB 222) 35 = .ok (.ireturn, 1) := by decide +kernel
theorem f_222_36 : decode (mB 222) 36 = .ok (.iconst 0, 1) := by decide +kernel
theorem f_222_37 : decode (mB 222) 37 = .ok (.istore 4, 2) := by decide +kernel
theorem f_222_39 : decode (mB 222) 39 = .ok (.iload 4, 2) := by decide +kernel
theorem f_222_41 : decode (mB 222) 41 = .ok (.iload_n 1, 1) := by decide +kernel
theorem f_222_42 : decode (mB 222) 42 = .ok (.if_icmp .ge 37, 3) := by decide +kernel
theorem f_222_45 : decode (mB 222) 45 = .ok (.aload_n 0, 1) := by decide +kernel
theorem f_222_46 : decode (mB 222) 46 = .ok (.getfield 26, 3) := by decide +kernel
theorem f_222_49 : decode (mB 222) 49 = .ok (.aload_n 0, 1) := by decide +kernel
theorem f_222_50 : decode (mB 222) 50 = .ok (.getfield 170, 3) := by decide +kernel
theorem f_222_53 : decode (mB 222) 53 = .ok (.lload_n 2, 1) := by decide +kernel
theorem f_222_54 : decode (mB 222) 54 = .ok (.bipush 8, 2) := by decide +kernel
theorem f_222_56 : decode (mB 222) 56 = .ok (.iload 4, 2) := by decide +kernel
theorem f_222_58 : decode (mB 222) 58 = .ok (.imul, 1) := by decide +kernel
theorem f_222_59 : decode (mB 222) 59 = .ok (.lshr, 1) := by decide +kernel
theorem f_222_60 : decode (mB 222) 60 = .ok (.l2i, 1) := by decide +kernel
theorem f_222_61 : decode (mB 222) 61 = .ok (.i2b, 1) := by decide +kernel
theorem f_222_62 : decode (mB 222) 62 = .ok (.bastore, 1) := by decide +kernel
theorem f_222_63 : decode (mB 222) 63 = .ok (.aload_n 0, 1) := by decide +kernel
theorem f_222_64 : decode (mB 222) 64 = .ok (.dup, 1) := by decide +kernel
theorem f_222_65 : decode (mB 222) 65 = .ok (.getfield 170, 3) := by decide +kernel
theorem f_222_68 : decode (mB 222) 68 = .ok (.iconst 1, 1) := by decide +kernel
theorem f_222_69 : decode (mB 222) 69 = .ok (.iadd, 1) := by decide +kernel
theorem f_222_70 : decode (mB 222) 70 = .ok (.putfield 170, 3) := by decide +kernel
theorem f_222_73 : decode (mB 222) 73 = .ok (.iinc 4 1, 3) := by decide +kernel
theorem f_222_76 : decode (mB 222) 76 = .ok (.goto (-37), 3) := by decide +kernel
theorem f_222_79 : decode (mB 222) 79 = .ok (.aload_n 0, 1) := by decide +kernel
theorem f_222_80 : decode (mB 222) 80 = .ok (.getfield 170, 3) := by decide +kernel
theorem f_222_83 : decode (mB 222) 83 = .ok (.ireturn, 1) := by decide +kernel
theorem f_223_0 : decode (mB 223) 0 = .ok (.iload_n 1, 1) := by decide +kernel
theorem f_223_1 : decode (mB 223) 1 = .ok (.iconst 0, 1) := by decide +kernel
theorem f_223_2 : decode (mB 223) 2 = .ok (.iconst 4, 1) := by decide +kernel
theorem f_223_3 : decode (mB 223) 3 = .ok (.invokestatic 69, 3) := by decide +kernel
theorem f_223_6 : decode (mB 223) 6 = .ok (.ifCond .ne 10, 3) := by decide +kernel
theorem f_223_9 : decode (mB 223) 9 = .ok (.aload_n 0, 1) := by decide +kernel
theorem f_223_10 : decode (mB 223) 10 = .ok (.ldc 77, 2) := by decide +kernel
theorem f_223_12 : decode (mB 223) 12 = .ok (.invokevirtual 78, 3) := by decide +kernel
theorem f_223_15 : decode (mB 223) 15 = .ok (.ireturn, 1) := by decide +kernel
theorem f_223_16 : decode (mB 223) 16 = .ok (.aload_n 0, 1) := by decide +kernel
theorem f_223_17 : decode (mB 223) 17 = .ok (.invokevirtual 229, 3) := by decide +kernel
theorem f_223_20 : decode (mB 223) 20 = .ok (.istore_n 2, 1) := by decide +kernel
theorem f_223_21 : decode (mB 223) 21 = .ok (.aload_n 0, 1) := by decide +kernel
theorem f_223_22 : decode (mB 223) 22 = .ok (.iconst 0, 1) := by decide +kernel
theorem f_223_23 : decode (mB 223) 23 = .ok (.putfield 170, 3) := by decide +kernel
theorem f_223_26 : decode (mB 223) 26 = .ok (.iload_n 2, 1) := by decide +kernel
theorem f_223_27 : decode (mB 223) 27 = .ok (.ifCond .ne 8, 3) := by decide +kernel
theorem f_223_30 : decode (mB 223) 30 = .ok (.aload_n 0, 1) := by decide +kernel
theorem f_223_31 : decode (mB 223) 31 = .ok (.getfield 176, 3) := by decide +kernel
theorem f_223_34 : decode (mB 223) 34 = .ok (.ireturn, 1) := by decide +kernel
theorem f_223_35 : decode (mB 223) 35 = .ok (.iconst 0, 1) := by decide +kernel
theorem f_223_36 : decode (mB 223) 36 = .ok (.istore_n 3, 1) := by decide +kernel
theorem f_223_37 : decode (mB 223) 37 = .ok (.iload_n 3, 1) := by decide +kernel
theorem f_223_38 : decode (mB 223) 38 = .ok (.sipush 609, 3) := by decide +kernel
theorem f_223_41 : decode (mB 223) 41 = .ok (.if_icmp .ge 31, 3) := by decide +kernel
theorem f_223_44 : decode (mB 223) 44 = .ok (.aload_n 0, 1) := by decide +kernel
theorem f_223_45 : decode (mB 223) 45 = .ok (.getfield 7, 3) := by decide +kernel
theorem f_223_48 : decode (mB 223) 48 = .ok (.sipush 406, 3) := by decide +kernel
theorem f_223_51 : decode (mB 223) 51 = .ok (.sipush 609, 3) := by decide +kernel
theorem f_223_54 : decode (mB 223) 54 = .ok (.iload_n 1, 1) := by decide +kernel
theorem f_223_55 : decode (mB 223) 55 = .ok (.imul, 1) := by decide +kernel
theorem f_223_56 : decode (mB 223) 56 = .ok (.iadd, 1) := by decide +kernel
theorem f_223_57 : decode (mB 223) 57 = .ok (.iload_n 3, 1) := by decide +kernel
theorem f_223_58 : decode (mB 223) 58 = .ok (.iadd, 1) := by decide +kernel
theorem f_223_59 : decode (mB 223) 59 = .ok (.aload_n 0, 1) := by decide +kernel
theorem f_223_60 : decode (mB 223) 60 = .ok (.getfield 37, 3) := by decide +kernel
theorem f_223_63 : decode (mB 223) 63 = .ok (.iload_n 3, 1) := by decide +kernel
theorem f_223_64 : decode (mB 223) 64 = .ok (.iaload, 1) := by decide +kernel
theorem f_223_65 : decode (mB 223) 65 = .ok (.iastore, 1) := by decide +kernel
theorem f_223_66 : decode (mB 223) 66 = .ok (.iinc 3 1, 3) := by decide +kernel
theorem f_223_69 : decode (mB 223) 69 = .ok (.goto (-32), 3) := by decide +kernel
theorem f_223_72 : decode (mB 223) 72 = .ok (.iconst (-1), 1) := by decide +kernel
theorem f_223_73 : decode (mB 223) 73 = .ok (.ireturn, 1) := by decide +kernel
theorem f_224_0 : decode (mB 224) 0 = .ok (.aload_n 0, 1) := by decide +kernel
theorem f_224_1 : decode (mB 224) 1 = .ok (.iconst 0, 1) := by decide +kernel
theorem f_224_2 : decode (mB 224) 2 = .ok (.putfield 173, 3) := by decide +kernel
theorem f_224_5 : decode (mB 224) 5 = .ok (.iconst 0, 1) := by decide +kernel
theorem f_224_6 : decode (mB 224) 6 = .ok (.istore_n 1, 1) := by decide +kernel
theorem f_224_7 : decode (mB 224) 7 = .ok (.iload_n 1, 1) := by decide +kernel
theorem f_224_8 : decode (mB 224) 8 = .ok (.iconst 3, 1) := by decide +kernel
theorem f_224_9 : decode (mB 224) 9 = .ok (.if_icmp .ge 34, 3) := by decide +kernel
theorem f_224_12 : decode (mB 224) 12 = .ok (.aload_n 0, 1) := by decide +kernel
theorem f_224_13 : decode (mB 224) 13 = .ok (.invokevirtual 213, 3) := by decide +kernel
theorem f_224_16 : decode (mB 224) 16 = .ok (.aload_n 0, 1) := by decide +kernel
theorem f_224_17 : decode (mB 224) 17 = .ok (.getfield 182, 3) := by decide +kernel
theorem f_224_20 : decode (mB 224) 20 = .ok (.bipush 12, 2) := by decide +kernel
theorem f_224_22 : decode (mB 224) 22 = .ok (.iload_n 1, 1) := by decide +kernel
theorem f_224_23 : decode (mB 224) 23 = .ok (.iadd, 1) := by decide +kernel
theorem f_224_24 : decode (mB 224) 24 = .ok (.if_icmp .ne 11, 3) := by decide +kernel
theorem f_224_27 : decode (mB 224) 27 = .ok (.aload_n 0, 1) := by decide +kernel
theorem f_224_28 : decode (mB 224) 28 = .ok (.iload_n 1, 1) := by decide +kernel
theorem f_224_29 : decode (mB 224) 29 = .ok (.invokevirtual 226, 3) := by decide +kernel
theorem f_224_32 : decode (mB 224) 32 = .ok (.ifCond .ne 5, 3) := by decide +kernel
theorem f_224_35 : decode (mB 224) 35 = .ok (.iconst 0, 1) := by decide +kernel
theorem f_224_36 : decode (mB 224) 36 = .ok (.ireturn, 1) := by decide +kernel
theorem f_224_37 : decode (mB 224) 37 = .ok (.iinc 1 1, 3) := by decide +kernel
theorem f_224_40 : decode (mB 224) 40 = .ok (.goto (-33), 3) := by decide +kernel
theorem f_224_43 : decode (mB 224) 43 = .ok (.aload_n 0, 1) := by decide +kernel
theorem f_224_44 : decode (mB 224) 44 = .ok (.invokevirtual 213, 3) := by decide +kernel
theorem f_224_47 : decode (mB 224) 47 = .ok (.aload_n 0, 1) := by decide +kernel
theorem f_224_48 : decode (mB 224) 48 = .ok (.getfield 182, 3) := by decide +kernel
theorem f_224_51 : decode (mB 224) 51 = .ok (.ifCond .ne 7, 3) := by decide +kernel
theorem f_224_54 : decode (mB 224) 54 = .ok (.iconst 1, 1) := by decide +kernel
theorem f_224_55 : decode (mB 224) 55 = .ok (.goto 4, 3) := by decide +kernel
theorem f_224_58 : decode (mB 224) 58 = .ok (.iconst 0, 1) := by decide +kernel
theorem f_224_59 : decode (mB 224) 59 = .ok (.ireturn, 1) := by decide +kernel
theorem f_225_0 : decode (mB 225) 0 = .ok (.aload_n 0, 1) := by decide +kernel
theorem f_225_1 : decode (mB 225) 1 = .ok (.aload_n 0, 1) := by decide +kernel
theorem f_225_2 : decode (mB 225) 2 = .ok (.getfield 173, 3) := by decide +kernel
theorem f_225_5 : decode (mB 225) 5 = .ok (.putfield 176, 3) := by decide +kernel
theorem f_225_8 : decode (mB 225) 8 = .ok (.aload_n 0, 1) := by decide +kernel
theorem f_225_9 : decode (mB 225) 9 = .ok (.aload_n 0, 1) := by decide +kernel
theorem f_225_10 : decode (mB 225) 10 = .ok (.getfield 176, 3) := by decide +kernel
theorem f_225_13 : decode (mB 225) 13 = .ok (.invokevirtual 179, 3) := by decide +kernel
theorem f_225_16 : decode (mB 225) 16 = .ok (.bipush 32, 2) := by decide +kernel
theorem f_225_18 : decode (mB 225) 18 = .ok (.if_icmp .ne 16, 3) := by decide +kernel
theorem f_225_21 : decode (mB 225) 21 = .ok (.aload_n 0, 1) := by decide +kernel
theorem f_225_22 : decode (mB 225) 22 = .ok (.dup, 1) := by decide +kernel
theorem f_225_23 : decode (mB 225) 23 = .ok (.getfield 176, 3) := by decide +kernel
theorem f_225_26 : decode (mB 225) 26 = .ok (.iconst 1, 1) := by decide +kernel
theorem f_225_27 : decode (mB 225) 27 = .ok (.iadd, 1) := by decide +kernel
theorem f_225_28 : decode (mB 225) 28 = .ok (.putfield 176, 3) := by decide +kernel
theorem f_225_31 : decode (mB 225) 31 = .ok (.goto (-23), 3) := by decide +kernel
theorem f_225_34 : decode (mB 225) 34 = .ok (.aload_n 0, 1) := by decide +kernel
theorem f_225_35 : decode (mB 225) 35 = .ok (.aload_n 0, 1) := by decide +kernel
theorem f_225_36 : decode (mB 225) 36 = .ok (.getfield 176, 3) := by decide +kernel
theorem f_225_39 : decode (mB 225) 39 = .ok (.putfield 173, 3) := by decide +kernel
theorem f_225_42 : decode (mB 225) 42 = .ok (.aload_n 0, 1) := by decide +kernel
theorem f_225_43 : decode (mB 225) 43 = .ok (.aload_n 0, 1) := by decide +kernel
theorem f_225_44 : decode (mB 225) 44 = .ok (.getfield 176, 3) := by decide +kernel
theorem f_225_47 : decode (mB 225) 47 = .ok (.invokevirtual 179, 3) := by decide +kernel
theorem f_225_50 : decode (mB 225) 50 = .ok (.istore_n 1, 1) := by decide +kernel
theorem f_225_51 : decode (mB 225) 51 = .ok (.iload_n 1, 1) := by decide +kernel
theorem f_225_52 : decode (mB 225) 52 = .ok (.ifCond .ge 11, 3) := by decide +kernel
theorem f_225_55 : decode (mB 225) 55 = .ok (.aload_n 0, 1) := by decide +kernel
theorem f_225_56 : decode (mB 225) 56 = .ok (.iconst 0, 1) := by decide +kernel
theorem f_225_57 : decode (mB 225) 57 = .ok (.putfield 182, 3) := by decide +kernel
theorem f_225_60 : decode (mB 225) 60 = .ok (.goto 187, 3) := by decide +kernel
theorem f_225_63 : decode (mB 225) 63 = .ok (.iload_n 1, 1) := by decide +kernel
theorem f_225_64 : decode (mB 225) 64 = .ok (.invokestatic 185, 3) := by decide +kernel
theorem f_225_67 : decode (mB 225) 67 = .ok (.ifCond .eq 41, 3) := by decide +kernel
theorem f_225_70 : decode (mB 225) 70 = .ok (.aload_n 0, 1) := by decide +kernel
theorem f_225_71 : decode (mB 225) 71 = .ok (.aload_n 0, 1) := by decide +kernel
theorem f_225_72 : decode (mB 225) 72 = .ok (.getfield 173, 3) := by decide +kernel
theorem f_225_75 : decode (mB 225) 75 = .ok (.invokevirtual 179, 3) := by decide +kernel
theorem f_225_78 : decode (mB 225) 78 = .ok (.invokestatic 185, 3) := by decide +kernel
theorem f_225_81 : decode (mB 225) 81 = .ok (.ifCond .eq 16, 3) := by decide +kernel
theorem f_225_84 : decode (mB 225) 84 = .ok (.aload_n 0, 1) := by decide +kernel
theorem f_225_85 : decode (mB 225) 85 = .ok (.dup, 1) := by decide +kernel
theorem f_225_86 : decode (mB 225) 86 = .ok (.getfield 173, 3) := by decide +kernel
theorem f_225_89 : decode (mB 225) 89 = .ok (.iconst 1, 1) := by decide +kernel
theorem f_225_90 : decode (mB 225) 90 = .ok (.iadd, 1) := by decide +kernel
theorem f_225_91 : decode (mB 225) 91 = .ok (.putfield 173, 3) := by decide +kernel
theorem f_225_94 : decode (mB 225) 94 = .ok (.goto (-24), 3) := by decide +kernel
theorem f_225_97 : decode (mB 225) 97 = .ok (.aload_n 0, 1) := by decide +kernel
theorem f_225_98 : decode (mB 225) 98 = .ok (.aload_n 0, 1) := by decide +kernel
theorem f_225_99 : decode (mB 225) 99 = .ok (.invokevirtual 188, 3) := by decide +kernel
theorem f_225_102 : decode (mB 225) 102 = .ok (.putfield 182, 3) := by decide +kernel
theorem f_225_105 : decode (mB 225) 105 = .ok (.goto 142, 3) := by decide +kernel
theorem f_225_108 : decode (mB 225) 108 = .ok (.iload_n 1, 1) := by decide +kernel
theorem f_225_109 : decode (mB 225) 109 = .ok (.invokestatic 192, 3) := by decide +kernel
theorem f_225_112 : decode (mB 225) 112 = .ok (.ifCond .eq 105, 3) := by decide +kernel
theorem f_225_115 : decode (mB 225) 115 = .ok (.aload_n 0, 1) := by decide +kernel
theorem f_225_116 : decode (mB 225) 116 = .ok (.iconst 0, 1) := by decide +kernel
theorem f_225_117 : decode (mB 225) 117 = .ok (.putfield 195, 3) := by decide +kernel
theorem f_225_120 : decode (mB 225) 120 = .ok (.aload_n 0, 1) := by decide +kernel
theorem f_225_121 : decode (mB 225) 121 = .ok (.aload_n 0, 1) := by decide +kernel
theorem f_225_122 : decode (mB 225) 122 = .ok (.getfield 173, 3) := by decide +kernel
theorem f_225_125 : decode (mB 225) 125 = .ok (.invokevirtual 179, 3) := by decide +kernel
theorem f_225_128 : decode (mB 225) 128 = .ok (.invokestatic 192, 3) := by decide +kernel
theorem f_225_131 : decode (mB 225) 131 = .ok (.ifCond .eq 59, 3) := by decide +kernel
theorem f_225_134 : decode (mB 225) 134 = .ok (.aload_n 0, 1) := by decide +kernel
theorem f_225_135 : decode (mB 225) 135 = .ok (.aload_n 0, 1) := by decide +kernel
theorem f_225_136 : decode (mB 225) 136 = .ok (.getfield 173, 3) := by decide +kernel
theorem f_225_139 : decode (mB 225) 139 = .ok (.aload_n 0, 1) := by decide +kernel
theorem f_225_140 : decode (mB 225) 140 = .ok (.getfield 176, 3) := by decide +kernel
theorem f_225_143 : decode (mB 225) 143 = .ok (.isub, 1) := by decide +kernel
theorem f_225_144 : decode (mB 225) 144 = .ok (.iconst 4, 1) := by decide +kernel
theorem f_225_145 : decode (mB 225) 145 = .ok (.if_icmp .ge 25, 3) := by decide +kernel
theorem f_225_148 : decode (mB 225) 148 = .ok (.bipush 10, 2) := by decide +kernel
theorem f_225_150 : decode (mB 225) 150 = .ok (.aload_n 0, 1) := by decide +kernel
theorem f_225_151 : decode (mB 225) 151 = .ok (.getfield 195, 3) := by decide +kernel
theorem f_225_154 : decode (mB 225) 154 = .ok (.imul, 1) := by decide +kernel
theorem f_225_155 : decode (mB 225) 155 = .ok (.aload_n 0, 1) := by decide +kernel
theorem f_225_156 : decode (mB 225) 156 = .ok (.aload_n 0, 1) := by decide +kernel
theorem f_225_157 : decode (mB 225) 157 = .ok (.getfield 173, 3) := by decide +kernel
theorem f_225_160 : decode (mB 225) 160 = .ok (.invokevirtual 179, 3) := by decide +kernel
theorem f_225_163 : decode (mB 225) 163 = .ok (.iadd, 1) := by decide +kernel
theorem f_225_164 : decode (mB 225) 164 = .ok (.bipush 48, 2) := by decide +kernel
theorem f_225_166 : decode (mB 225) 166 = .ok (.isub, 1) := by decide +kernel
theorem f_225_167 : decode (mB 225) 167 = .ok (.goto 7, 3) := by decide +kernel
theorem f_225_170 : decode (mB 225) 170 = .ok (.aload_n 0, 1) := by decide +kernel
theorem f_225_171 : decode (mB 225) 171 = .ok (.getfield 195, 3) := by decide +kernel
theorem f_225_174 : decode (mB 225) 174 = .ok (.putfield 195, 3) := by decide +kernel
theorem f_225_177 : decode (mB 225) 177 = .ok (.aload_n 0, 1) := by decide +kernel
theorem f_225_178 : decode (mB 225) 178 = .ok (.dup, 1) := by decide +kernel
theorem f_225_179 : decode (mB 225) 179 = .ok (.getfield 173, 3) := by decide +kernel
theorem f_225_182 : decode (mB 225) 182 = .ok (.iconst 1, 1) := by decide +kernel
theorem f_225_183 : decode (mB 225) 183 = .ok (.iadd, 1) := by decide +kernel
theorem f_225_184 : decode (mB 225) 184 = .ok (.putfield 173, 3) := by decide +kernel
theorem f_225_187 : decode (mB 225) 187 = .ok (.goto (-67), 3) := by decide +kernel
theorem f_225_190 : decode (mB 225) 190 = .ok (.aload_n 0, 1) := by decide +kernel
theorem f_225_191 : decode (mB 225) 191 = .ok (.aload_n 0, 1) := by decide +kernel
theorem f_225_192 : decode (mB 225) 192 = .ok (.getfield 173, 3) := by decide +kernel
theorem f_225_195 : decode (mB 225) 195 = .ok (.aload_n 0, 1) := by decide +kernel
theorem f_225_196 : decode (mB 225) 196 = .ok (.getfield 176, 3) := by decide +kernel
theorem f_225_199 : decode (mB 225) 199 = .ok (.isub, 1) := by decide +kernel
theorem f_225_200 : decode (mB 225) 200 = .ok (.iconst 4, 1) := by decide +kernel
theorem f_225_201 : decode (mB 225) 201 = .ok (.if_icmp .le 8, 3) := by decide +kernel
theorem f_225_204 : decode (mB 225) 204 = .ok (.bipush 60, 2) := by decide +kernel
theorem f_225_206 : decode (mB 225) 206 = .ok (.goto 5, 3) := by decide +kernel
theorem f_225_209 : decode (mB 225) 209 = .ok (.bipush 50, 2) := by decide +kernel
theorem f_225_211 : decode (mB 225) 211 = .ok (.putfield 182, 3) := by decide +kernel
theorem f_225_214 : decode (mB 225) 214 = .ok (.goto 33, 3) := by decide +kernel
theorem f_225_217 : decode (mB 225) 217 = .ok (.aload_n 0, 1) := by decide +kernel
theorem f_225_218 : decode (mB 225) 218 = .ok (.dup, 1) := by decide +kernel
theorem f_225_219 : decode (mB 225) 219 = .ok (.getfield 173, 3) := by decide +kernel
theorem f_225_222 : decode (mB 225) 222 = .ok (.iconst 1, 1) := by decide +kernel
theorem f_225_223 : decode (mB 225) 223 = .ok (.iadd, 1) := by decide +kernel
theorem f_225_224 : decode (mB 225) 224 = .ok (.putfield 173, 3) := by decide +kernel
theorem f_225_227 : decode (mB 225) 227 = .ok (.aload_n 0, 1) := by decide +kernel
theorem f_225_228 : decode (mB 225) 228 = .ok (.iload_n 1, 1) := by decide +kernel
theorem f_225_229 : decode (mB 225) 229 = .ok (.invokestatic 198, 3) := by decide +kernel
theorem f_225_232 : decode (mB 225) 232 = .ok (.ifCond .eq 10, 3) := by decide +kernel
theorem f_225_235 : decode (mB 225) 235 = .ok (.bipush 100, 2) := by decide +kernel
theorem f_225_237 : decode (mB 225) 237 = .ok (.iload_n 1, 1) := by decide +kernel
theorem f_225_238 : decode (mB 225) 238 = .ok (.iadd, 1) := by decide +kernel
theorem f_225_239 : decode (mB 225) 239 = .ok (.goto 5, 3) := by decide +kernel
theorem f_225_242 : decode (mB 225) 242 = .ok (.bipush 60, 2) := by decide +kernel
theorem f_225_244 : decode (mB 225) 244 = .ok (.putfield 182, 3) := by decide +kernel
theorem f_225_247 : decode (mB 225) 247 = .ok (.return_, 1) := by decide +kernel
theorem f_226_0 : decode (mB 226) 0 = .ok (.iload_n 1, 1) := by decide +kernel
theorem f_226_1 : decode (mB 226) 1 = .ok (.aload_n 0, 1) := by decide +kernel
theorem f_226_2 : decode (mB 226) 2 = .ok (.getfield 170, 3) := by decide +kernel
theorem f_226_5 : decode (mB 226) 5 = .ok (.if_icmp .ge 16, 3) := by decide +kernel
theorem f_226_8 : decode (mB 226) 8 = .ok (.aload_n 0, 1) := by decide +kernel
theorem f_226_9 : decode (mB 226) 9 = .ok (.getfield 26, 3) := by decide +kernel
theorem f_226_12 : decode (mB 226) 12 = .ok (.iload_n 1, 1) := by decide +kernel
theorem f_226_13 : decode (mB 226) 13 = .ok (.baload, 1) := by decide +kernel
theorem f_226_14 : decode (mB 226) 14 = .ok (.sipush 255, 3) := by decide +kernel
theorem f_226_17 : decode (mB 226) 17 = .ok (.iand, 1) := by decide +kernel
theorem f_226_18 : decode (mB 226) 18 = .ok (.goto 4, 3) := by decide +kernel
theorem f_226_21 : decode (mB 226) 21 = .ok (.iconst (-1), 1) := by decide +kernel
theorem f_226_22 : decode (mB 226) 22 = .ok (.ireturn, 1) := by decide +kernel
theorem f_227_0 : decode (mB 227) 0 = .ok (.iload_n 0, 1) := by decide +kernel
theorem f_227_1 : decode (mB 227) 1 = .ok (.bipush 97, 2) := by decide +kernel
theorem f_227_3 : decode (mB 227) 3 = .ok (.if_icmp .lt 13, 3) := by decide +kernel
theorem f_227_6 : decode (mB 227) 6 = .ok (.iload_n 0, 1) := by decide +kernel
theorem f_227_7 : decode (mB 227) 7 = .ok (.bipush 122, 2) := by decide +kernel
theorem f_227_9 : decode (mB 227) 9 = .ok (.if_icmp .gt 7, 3) := by decide +kernel
theorem f_227_12 : decode (mB 227) 12 = .ok (.iconst 1, 1) := by decide +kernel
theorem f_227_13 : decode (mB 227) 13 = .ok (.goto 4, 3) := by decide +kernel
theorem f_227_16 : decode (mB 227) 16 = .ok (.iconst 0, 1) := by decide +kernel
theorem f_227_17 : decode (mB 227) 17 = .ok (.ireturn, 1) := by decide +kernel
theorem f_228_0 : decode (mB 228) 0 = .ok (.iconst 0, 1) := by decide +kernel
theorem f_228_1 : decode (mB 228) 1 = .ok (.istore_n 1, 1) := by decide +kernel
theorem f_228_2 : decode (mB 228) 2 = .ok (.iload_n 1, 1) := by decide +kernel
theorem f_228_3 : decode (mB 228) 3 = .ok (.bipush 17, 2) := by decide +kernel
theorem f_228_5 : decode (mB 228) 5 = .ok (.if_icmp .ge 105, 3) := by decide +kernel
theorem f_228_8 : decode (mB 228) 8 = .ok (.aload_n 0, 1) := by decide +kernel
theorem f_228_9 : decode (mB 228) 9 = .ok (.getfield 34, 3) := by decide +kernel
theorem f_228_12 : decode (mB 228) 12 = .ok (.iload_n 1, 1) := by decide +kernel
theorem f_228_13 : decode (mB 228) 13 = .ok (.iconst 1, 1) := by decide +kernel
theorem f_228_14 : decode (mB 228) 14 = .ok (.iadd, 1) := by decide +kernel
theorem f_228_15 : decode (mB 228) 15 = .ok (.iaload, 1) := by decide +kernel
theorem f_228_16 : decode (mB 228) 16 = .ok (.aload_n 0, 1) := by decide +kernel
theorem f_228_17 : decode (mB 228) 17 = .ok (.getfield 34, 3) := by decide +kernel
theorem f_228_20 : decode (mB 228) 20 = .ok (.iload_n 1, 1) := by decide +kernel
theorem f_228_21 : decode (mB 228) 21 = .ok (.iaload, 1) := by decide +kernel
theorem f_228_22 : decode (mB 228) 22 = .ok (.isub, 1) := by decide +kernel
theorem f_228_23 : decode (mB 228) 23 = .ok (.aload_n 0, 1) := by decide +kernel
theorem f_228_24 : decode (mB 228) 24 = .ok (.getfield 173, 3) := by decide +kernel
theorem f_228_27 : decode (mB 228) 27 = .ok (.aload_n 0, 1) := by decide +kernel
theorem f_228_28 : decode (mB 228) 28 = .ok (.getfield 176, 3) := by decide +kernel
theorem f_228_31 : decode (mB 228) 31 = .ok (.isub, 1) := by decide +kernel
theorem f_228_32 : decode (mB 228) 32 = .ok (.if_icmp .ne 7, 3) := by decide +kernel
theorem f_228_35 : decode (mB 228) 35 = .ok (.iconst 1, 1) := by decide +kernel
theorem f_228_36 : decode (mB 228) 36 = .ok (.goto 4, 3) := by decide +kernel
theorem f_228_39 : decode (mB 228) 39 = .ok (.iconst 0, 1) := by decide +kernel
theorem f_228_40 : decode (mB 228) 40 = .ok (.istore_n 2, 1) := by decide +kernel
theorem f_228_41 : decode (mB 228) 41 = .ok (.aload_n 0, 1) := by decide +kernel
theorem f_228_42 : decode (mB 228) 42 = .ok (.getfield 176, 3) := by decide +kernel
theorem f_228_45 : decode (mB 228) 45 = .ok (.istore_n 3, 1) := by decide +kernel
theorem f_228_46 : decode (mB 228) 46 = .ok (.iload_n 3, 1) := by decide +kernel
theorem f_228_47 : decode (mB 228) 47 = .ok (.aload_n 0, 1) := by decide +kernel
theorem f_228_48 : decode (mB 228) 48 = .ok (.getfield 173, 3) := by decide +kernel
theorem f_228_51 : decode (mB 228) 51 = .ok (.if_icmp .ge 45, 3) := by decide +kernel
theorem f_228_54 : decode (mB 228) 54 = .ok (.iload_n 2, 1) := by decide +kernel
theorem f_228_55 : decode (mB 228) 55 = .ok (.ifCond .eq 41, 3) := by decide +kernel
theorem f_228_58 : decode (mB 228) 58 = .ok (.aload_n 0, 1) := by decide +kernel
theorem f_228_59 : decode (mB 228) 59 = .ok (.iload_n 3, 1) := by decide +kernel
theorem f_228_60 : decode (mB 228) 60 = .ok (.invokevirtual 179, 3) := by decide +kernel
theorem f_228_63 : decode (mB 228) 63 = .ok (.aload_n 0, 1) := by decide +kernel
theorem f_228_64 : decode (mB 228) 64 = .ok (.getfield 30, 3) := by decide +kernel
theorem f_228_67 : decode (mB 228) 67 = .ok (.aload_n 0, 1) := by decide +kernel
theorem f_228_68 : decode (mB 228) 68 = .ok (.getfield 34, 3) := by decide +kernel
theorem f_228_71 : decode (mB 228) 71 = .ok (.iload_n 1, 1) := by decide +kernel
theorem f_228_72 : decode (mB 228) 72 = .ok (.iaload, 1) := by decide +kernel
theorem f_228_73 : decode (mB 228) 73 = .ok (.iload_n 3, 1) := by decide +kernel
theorem f_228_74 : decode (mB 228) 74 = .ok (.iadd, 1) := by decide +kernel
theorem f_228_75 : decode (mB 228) 75 = .ok (.aload_n 0, 1) := by decide +kernel
theorem f_228_76 : decode (mB 228) 76 = .ok (.getfield 176, 3) := by decide +kernel
theorem f_228_79 : decode (mB 228) 79 = .ok (.isub, 1) := by decide +kernel
theorem f_228_80 : decode (mB 228) 80 = .ok (.caload, 1) := by decide +kernel
theorem f_228_81 : decode (mB 228) 81 = .ok (.if_icmp .ne 7, 3) := by decide +kernel
theorem f_228_84 : decode (mB 228) 84 = .ok (.iconst 1, 1) := by decide +kernel
theorem f_228_85 : decode (mB 228) 85 = .ok (.goto 4, 3) := by decide +kernel
theorem f_228_88 : decode (mB 228) 88 = .ok (.iconst 0, 1) := by decide +kernel
theorem f_228_89 : decode (mB 228) 89 = .ok (.istore_n 2, 1) := by decide +kernel
theorem f_228_90 : decode (mB 228) 90 = .ok (.iinc 3 1, 3) := by decide +kernel
theorem f_228_93 : decode (mB 228) 93 = .ok (.goto (-47), 3) := by decide +kernel
theorem f_228_96 : decode (mB 228) 96 = .ok (.iload_n 2, 1) := by decide +kernel
theorem f_228_97 : decode (mB 228) 97 = .ok (.ifCond .eq 7, 3) := by decide +kernel
theorem f_228_100 : decode (mB 228) 100 = .ok (.iload_n 1, 1) := by decide +kernel
theorem f_228_101 : decode (mB 228) 101 = .ok (.iconst 1, 1) := by decide +kernel
theorem f_228_102 : decode (mB 228) 102 = .ok (.iadd, 1) := by decide +kernel
theorem f_228_103 : decode (mB 228) 103 = .ok (.ireturn, 1) := by decide +kernel
theorem f_228_104 : decode (mB 228) 104 = .ok (.iinc 1 1, 3) := by decide +kernel
theorem f_228_107 : decode (mB 228) 107 = .ok (.goto (-105), 3) := by decide +kernel
theorem f_228_110 : decode (mB 228) 110 = .ok (.bipush 60, 2) := by decide +kernel
theorem f_228_112 : decode (mB 228) 112 = .ok (.ireturn, 1) := by decide +kernel
theorem f_229_0 : decode (mB 229) 0 = .ok (.iload_n 0, 1) := by decide +kernel
theorem f_229_1 : decode (mB 229) 1 = .ok (.bipush 48, 2) := by decide +kernel
theorem f_229_3 : decode (mB 229) 3 = .ok (.if_icmp .lt 13, 3) := by decide +kernel
theorem f_229_6 : decode (mB 229) 6 = .ok (.iload_n 0, 1) := by decide +kernel
theorem f_229_7 : decode (mB 229) 7 = .ok (.bipush 57, 2) := by decide +kernel
theorem f_229_9 : decode (mB 229) 9 = .ok (.if_icmp .gt 7, 3) := by decide +kernel
theorem f_229_12 : decode (mB 229) 12 = .ok (.iconst 1, 1) := by decide +kernel
theorem f_229_13 : decode (mB 229) 13 = .ok (.goto 4, 3) := by decide +kernel
theorem f_229_16 : decode (mB 229) 16 = .ok (.iconst 0, 1) := by decide +kernel
theorem f_229_17 : decode (mB 229) 17 = .ok (.ireturn, 1) := by decide +kernel
theorem f_230_0 : decode (mB 230) 0 = .ok (.iload_n 0, 1) := by decide +kernel
theorem f_230_1 : decode (mB 230) 1 = .ok (.bipush 40, 2) := by decide +kernel
theorem f_230_3 : decode (mB 230) 3 = .ok (.if_icmp .eq 39, 3) := by decide +kernel
theorem f_230_6 : decode (mB 230) 6 = .ok (.iload_n 0, 1) := by decide +kernel
theorem f_230_7 : decode (mB 230) 7 = .ok (.bipush 41, 2) := by decide +kernel
theorem f_230_9 : decode (mB 230) 9 = .ok (.if_icmp .eq 33, 3) := by decide +kernel
theorem f_230_12 : decode (mB 230) 12 = .ok (.iload_n 0, 1) := by decide +kernel
theorem f_230_13 : decode (mB 230) 13 = .ok (.bipush 59, 2) := by decide +kernel
theorem f_230_15 : decode (mB 230) 15 = .ok (.if_icmp .eq 27, 3) := by decide +kernel
theorem f_230_18 : decode (mB 230) 18 = .ok (.iload_n 0, 1) := by decide +kernel
theorem f_230_19 : decode (mB 230) 19 = .ok (.bipush 43, 2) := by decide +kernel
theorem f_230_21 : decode (mB 230) 21 = .ok (.if_icmp .eq 21, 3) := by decide +kernel
theorem f_230_24 : decode (mB 230) 24 = .ok (.iload_n 0, 1) := by decide +kernel
theorem f_230_25 : decode (mB 230) 25 = .ok (.bipush 45, 2) := by decide +kernel
theorem f_230_27 : decode (mB 230) 27 = .ok (.if_icmp .eq 15, 3) := by decide +kernel
theorem f_230_30 : decode (mB 230) 30 = .ok (.iload_n 0, 1) := by decide +kernel
theorem f_230_31 : decode (mB 230) 31 = .ok (.bipush 60, 2) := by decide +kernel
theorem f_230_33 : decode (mB 230) 33 = .ok (.if_icmp .eq 9, 3) := by decide +kernel
theorem f_230_36 : decode (mB 230) 36 = .ok (.iload_n 0, 1) := by decide +kernel
theorem f_230_37 : decode (mB 230) 37 = .ok (.bipush 61, 2) := by decide +kernel
theorem f_230_39 : decode (mB 230) 39 = .ok (.if_icmp .ne 7, 3) := by decide +kernel
theorem f_230_42 : decode (mB 230) 42 = .ok (.iconst 1, 1) := by decide +kernel
theorem f_230_43 : decode (mB 230) 43 = .ok (.goto 4, 3) := by decide +kernel
theorem f_230_46 : decode (mB 230) 46 = .ok (.iconst 0, 1) := by decide +kernel
theorem f_230_47 : decode (mB 230) 47 = .ok (.ireturn, 1) := by decide +kernel
theorem f_231_0 : decode (mB 231) 0 = .ok (.aload_n 0, 1) := by decide +kernel
theorem f_231_1 : decode (mB 231) 1 = .ok (.sipush 203, 3) := by decide +kernel
theorem f_231_4 : decode (mB 231) 4 = .ok (.iload_n 1, 1) := by decide +kernel
theorem f_231_5 : decode (mB 231) 5 = .ok (.imul, 1) := by decide +kernel
theorem f_231_6 : decode (mB 231) 6 = .ok (.iconst 1, 1) := by decide +kernel
theorem f_231_7 : decode (mB 231) 7 = .ok (.iadd, 1) := by decide +kernel
theorem f_231_8 : decode (mB 231) 8 = .ok (.putfield 201, 3) := by decide +kernel
theorem f_231_11 : decode (mB 231) 11 = .ok (.aload_n 0, 1) := by decide +kernel
theorem f_231_12 : decode (mB 231) 12 = .ok (.iconst 0, 1) := by decide +kernel
theorem f_231_13 : decode (mB 231) 13 = .ok (.putfield 204, 3) := by decide +kernel
theorem f_231_16 : decode (mB 231) 16 = .ok (.iconst 1, 1) := by decide +kernel
theorem f_231_17 : decode (mB 231) 17 = .ok (.istore_n 2, 1) := by decide +kernel
theorem f_231_18 : decode (mB 231) 18 = .ok (.iconst 1, 1) := by decide +kernel
theorem f_231_19 : decode (mB 231) 19 = .ok (.istore_n 3, 1) := by decide +kernel
theorem f_231_20 : decode (mB 231) 20 = .ok (.aload_n 0, 1) := by decide +kernel
theorem f_231_21 : decode (mB 231) 21 = .ok (.invokevirtual 213, 3) := by decide +kernel
theorem f_231_24 : decode (mB 231) 24 = .ok (.iload_n 2, 1) := by decide +kernel
theorem f_231_25 : decode (mB 231) 25 = .ok (.ifCond .eq 146, 3) := by decide +kernel
theorem f_231_28 : decode (mB 231) 28 = .ok (.aload_n 0, 1) := by decide +kernel
theorem f_231_29 : decode (mB 231) 29 = .ok (.getfield 182, 3) := by decide +kernel
theorem f_231_32 : decode (mB 231) 32 = .ok (.sipush 140, 3) := by decide +kernel
theorem f_231_35 : decode (mB 231) 35 = .ok (.if_icmp .eq 16, 3) := by decide +kernel
theorem f_231_38 : decode (mB 231) 38 = .ok (.aload_n 0, 1) := by decide +kernel
theorem f_231_39 : decode (mB 231) 39 = .ok (.getfield 182, 3) := by decide +kernel
theorem f_231_42 : decode (mB 231) 42 = .ok (.bipush 17, 2) := by decide +kernel
theorem f_231_44 : decode (mB 231) 44 = .ok (.if_icmp .ne 11, 3) := by decide +kernel
theorem f_231_47 : decode (mB 231) 47 = .ok (.iload_n 3, 1) := by decide +kernel
theorem f_231_48 : decode (mB 231) 48 = .ok (.ifCond .eq 7, 3) := by decide +kernel
theorem f_231_51 : decode (mB 231) 51 = .ok (.iconst 1, 1) := by decide +kernel
theorem f_231_52 : decode (mB 231) 52 = .ok (.goto 4, 3) := by decide +kernel
theorem f_231_55 : decode (mB 231) 55 = .ok (.iconst 0, 1) := by decide +kernel
theorem f_231_56 : decode (mB 231) 56 = .ok (.istore 4, 2) := by decide +kernel
theorem f_231_58 : decode (mB 231) 58 = .ok (.iload 4, 2) := by decide +kernel
theorem f_231_60 : decode (mB 231) 60 = .ok (.ifCond .eq 49, 3) := by decide +kernel
theorem f_231_63 : decode (mB 231) 63 = .ok (.aload_n 0, 1) := by decide +kernel
theorem f_231_64 : decode (mB 231) 64 = .ok (.sipush 140, 3) := by decide +kernel
theorem f_231_67 : decode (mB 231) 67 = .ok (.invokevirtual 216, 3) := by decide +kernel
theorem f_231_70 : decode (mB 231) 70 = .ok (.aload_n 0, 1) := by decide +kernel
theorem f_231_71 : decode (mB 231) 71 = .ok (.bipush 17, 2) := by decide +kernel
theorem f_231_73 : decode (mB 231) 73 = .ok (.invokevirtual 216, 3) := by decide +kernel
theorem f_231_76 : decode (mB 231) 76 = .ok (.iadd, 1) := by decide +kernel
theorem f_231_77 : decode (mB 231) 77 = .ok (.iconst 4, 1) := by decide +kernel
theorem f_231_78 : decode (mB 231) 78 = .ok (.if_icmp .ge 31, 3) := by decide +kernel
theorem f_231_81 : decode (mB 231) 81 = .ok (.aload_n 0, 1) := by decide +kernel
theorem f_231_82 : decode (mB 231) 82 = .ok (.getfield 40, 3) := by decide +kernel
theorem f_231_85 : decode (mB 231) 85 = .ok (.aload_n 0, 1) := by decide +kernel
theorem f_231_86 : decode (mB 231) 86 = .ok (.getfield 204, 3) := by decide +kernel
theorem f_231_89 : decode (mB 231) 89 = .ok (.aload_n 0, 1) := by decide +kernel
theorem f_231_90 : decode (mB 231) 90 = .ok (.getfield 182, 3) := by decide +kernel
theorem f_231_93 : decode (mB 231) 93 = .ok (.iastore, 1) := by decide +kernel
theorem f_231_94 : decode (mB 231) 94 = .ok (.aload_n 0, 1) := by decide +kernel
theorem f_231_95 : decode (mB 231) 95 = .ok (.dup, 1) := by decide +kernel
theorem f_231_96 : decode (mB 231) 96 = .ok (.getfield 204, 3) := by decide +kernel
theorem f_231_99 : decode (mB 231) 99 = .ok (.iconst 1, 1) := by decide +kernel
theorem f_231_100 : decode (mB 231) 100 = .ok (.iadd, 1) := by decide +kernel
theorem f_231_101 : decode (mB 231) 101 = .ok (.putfield 204, 3) := by decide +kernel
theorem f_231_104 : decode (mB 231) 104 = .ok (.iconst 1, 1) := by decide +kernel
theorem f_231_105 : decode (mB 231) 105 = .ok (.istore_n 3, 1) := by decide +kernel
theorem f_231_106 : decode (mB 231) 106 = .ok (.goto 62, 3) := by decide +kernel
theorem f_231_109 : decode (mB 231) 109 = .ok (.iload 4, 2) := by decide +kernel
theorem f_231_111 : decode (mB 231) 111 = .ok (.ifCond .ne 55, 3) := by decide +kernel
theorem f_231_114 : decode (mB 231) 114 = .ok (.aload_n 0, 1) := by decide +kernel
theorem f_231_115 : decode (mB 231) 115 = .ok (.getfield 182, 3) := by decide +kernel
theorem f_231_118 : decode (mB 231) 118 = .ok (.bipush 50, 2) := by decide +kernel
theorem f_231_120 : decode (mB 231) 120 = .ok (.if_icmp .eq 16, 3) := by decide +kernel
theorem f_231_123 : decode (mB 231) 123 = .ok (.aload_n 0, 1) := by decide +kernel
theorem f_231_124 : decode (mB 231) 124 = .ok (.getfield 182, 3) := by decide +kernel
theorem f_231_127 : decode (mB 231) 127 = .ok (.iconst 1, 1) := by decide +kernel
theorem f_231_128 : decode (mB 231) 128 = .ok (.bipush 11, 2) := by decide +kernel
theorem f_231_130 : decode (mB 231) 130 = .ok (.invokestatic 69, 3) := by decide +kernel
theorem f_231_133 : decode (mB 231) 133 = .ok (.ifCond .eq 33, 3) := by decide +kernel
theorem f_231_136 : decode (mB 231) 136 = .ok (.aload_n 0, 1) := by decide +kernel
theorem f_231_137 : decode (mB 231) 137 = .ok (.aload_n 0, 1) := by decide +kernel
theorem f_231_138 : decode (mB 231) 138 = .ok (.getfield 182, 3) := by decide +kernel
theorem f_231_141 : decode (mB 231) 141 = .ok (.bipush 50, 2) := by decide +kernel
theorem f_231_143 : decode (mB 231) 143 = .ok (.if_icmp .ne 10, 3) := by decide +kernel
theorem f_231_146 : decode (mB 231) 146 = .ok (.aload_n 0, 1) := by decide +kernel
theorem f_231_147 : decode (mB 231) 147 = .ok (.getfield 195, 3) := by decide +kernel
theorem f_231_150 : decode (mB 231) 150 = .ok (.goto 8, 3) := by decide +kernel
theorem f_231_153 : decode (mB 231) 153 = .ok (.aload_n 0, 1) := by decide +kernel
theorem f_231_154 : decode (mB 231) 154 = .ok (.getfield 182, 3) := by decide +kernel
theorem f_231_157 : decode (mB 231) 157 = .ok (.ineg, 1) := by decide +kernel
theorem f_231_158 : decode (mB 231) 158 = .ok (.invokevirtual 210, 3) := by decide +kernel
theorem f_231_161 : decode (mB 231) 161 = .ok (.iconst 0, 1) := by decide +kernel
theorem f_231_162 : decode (mB 231) 162 = .ok (.istore_n 2, 1) := by decide +kernel
theorem f_231_163 : decode (mB 231) 163 = .ok (.goto 5, 3) := by decide +kernel
theorem f_231_166 : decode (mB 231) 166 = .ok (.iconst 0, 1) := by decide +kernel
theorem f_231_167 : decode (mB 231) 167 = .ok (.ireturn, 1) := by decide +kernel
theorem f_231_168 : decode (mB 231) 168 = .ok (.goto (-148), 3) := by decide +kernel
theorem f_231_171 : decode (mB 231) 171 = .ok (.aload_n 0, 1) := by decide +kernel
theorem f_231_172 : decode (mB 231) 172 = .ok (.getfield 182, 3) := by decide +kernel
theorem f_231_175 : decode (mB 231) 175 = .ok (.sipush 141, 3) := by decide +kernel
theorem f_231_178 : decode (mB 231) 178 = .ok (.if_icmp .ne 31, 3) := by decide +kernel
theorem f_231_181 : decode (mB 231) 181 = .ok (.aload_n 0, 1) := by decide +kernel
theorem f_231_182 : decode (mB 231) 182 = .ok (.sipush 140, 3) := by decide +kernel
theorem f_231_185 : decode (mB 231) 185 = .ok (.invokevirtual 216, 3) := by decide +kernel
theorem f_231_188 : decode (mB 231) 188 = .ok (.ifCond .le 21, 3) := by decide +kernel
theorem f_231_191 : decode (mB 231) 191 = .ok (.aload_n 0, 1) := by decide +kernel
theorem f_231_192 : decode (mB 231) 192 = .ok (.iconst 1, 1) := by decide +kernel
theorem f_231_193 : decode (mB 231) 193 = .ok (.invokevirtual 219, 3) := by decide +kernel
theorem f_231_196 : decode (mB 231) 196 = .ok (.aload_n 0, 1) := by decide +kernel
theorem f_231_197 : decode (mB 231) 197 = .ok (.dup, 1) := by decide +kernel
theorem f_231_198 : decode (mB 231) 198 = .ok (.getfield 204, 3) := by decide +kernel
theorem f_231_201 : decode (mB 231) 201 = .ok (.iconst 1, 1) := by decide +kernel
theorem f_231_202 : decode (mB 231) 202 = .ok (.isub, 1) := by decide +kernel
theorem f_231_203 : decode (mB 231) 203 = .ok (.putfield 204, 3) := by decide +kernel
theorem f_231_206 : decode (mB 231) 206 = .ok (.goto (-186), 3) := by decide +kernel
theorem f_231_209 : decode (mB 231) 209 = .ok (.aload_n 0, 1) := by decide +kernel
theorem f_231_210 : decode (mB 231) 210 = .ok (.getfield 182, 3) := by decide +kernel
theorem f_231_213 : decode (mB 231) 213 = .ok (.sipush 159, 3) := by decide +kernel
theorem f_231_216 : decode (mB 231) 216 = .ok (.if_icmp .ne 42, 3) := by decide +kernel
theorem f_231_219 : decode (mB 231) 219 = .ok (.aload_n 0, 1) := by decide +kernel
theorem f_231_220 : decode (mB 231) 220 = .ok (.sipush 140, 3) := by decide +kernel
theorem f_231_223 : decode (mB 231) 223 = .ok (.invokevirtual 216, 3) := by decide +kernel
theorem f_231_226 : decode (mB 231) 226 = .ok (.ifCond .ne 32, 3) := by decide +kernel
theorem f_231_229 : decode (mB 231) 229 = .ok (.aload_n 0, 1) := by decide +kernel
theorem f_231_230 : decode (mB 231) 230 = .ok (.iconst 1, 1) := by decide +kernel
theorem f_231_231 : decode (mB 231) 231 = .ok (.invokevirtual 219, 3) := by decide +kernel
theorem f_231_234 : decode (mB 231) 234 = .ok (.aload_n 0, 1) := by decide +kernel
theorem f_231_235 : decode (mB 231) 235 = .ok (.getfield 37, 3) := by decide +kernel
theorem f_231_238 : decode (mB 231) 238 = .ok (.sipush 203, 3) := by decide +kernel
theorem f_231_241 : decode (mB 231) 241 = .ok (.iload_n 1, 1) := by decide +kernel
theorem f_231_242 : decode (mB 231) 242 = .ok (.imul, 1) := by decide +kernel
theorem f_231_243 : decode (mB 231) 243 = .ok (.aload_n 0, 1) := by decide +kernel
theorem f_231_244 : decode (mB 231) 244 = .ok (.getfield 201, 3) := by decide +kernel
theorem f_231_247 : decode (mB 231) 247 = .ok (.sipush 203, 3) := by decide +kernel
theorem f_231_250 : decode (mB 231) 250 = .ok (.iload_n 1, 1) := by decide +kernel
theorem f_231_251 : decode (mB 231) 251 = .ok (.imul, 1) := by decide +kernel
theorem f_231_252 : decode (mB 231) 252 = .ok (.isub, 1) := by decide +kernel
theorem f_231_253 : decode (mB 231) 253 = .ok (.iconst 1, 1) := by decide +kernel
theorem f_231_254 : decode (mB 231) 254 = .ok (.isub, 1) := by decide +kernel
theorem f_231_255 : decode (mB 231) 255 = .ok (.iastore, 1) := by decide +kernel
theorem f_231_256 : decode (mB 231) 256 = .ok (.iconst 1, 1) := by decide +kernel
theorem f_231_257 : decode (mB 231) 257 = .ok (.ireturn, 1) := by decide +kernel
theorem f_231_258 : decode (mB 231) 258 = .ok (.aload_n 0, 1) := by decide +kernel
theorem f_231_259 : decode (mB 231) 259 = .ok (.getfield 182, 3) := by decide +kernel
theorem f_231_262 : decode (mB 231) 262 = .ok (.bipush 17, 2) := by decide +kernel
theorem f_231_264 : decode (mB 231) 264 = .ok (.if_icmp .ne 7, 3) := by decide +kernel
theorem f_231_267 : decode (mB 231) 267 = .ok (.iconst 0, 1) := by decide +kernel
theorem f_231_268 : decode (mB 231) 268 = .ok (.goto 10, 3) := by decide +kernel
theorem f_231_271 : decode (mB 231) 271 = .ok (.aload_n 0, 1) := by decide +kernel
theorem f_231_272 : decode (mB 231) 272 = .ok (.getfield 182, 3) := by decide +kernel
theorem f_231_275 : decode (mB 231) 275 = .ok (.invokestatic 207, 3) := by decide +kernel
theorem f_231_278 : decode (mB 231) 278 = .ok (.istore 4, 2) := by decide +kernel
theorem f_231_280 : decode (mB 231) 280 = .ok (.iload 4, 2) := by decide +kernel
theorem f_231_282 : decode (mB 231) 282 = .ok (.ifCond .eq 16, 3) := by decide +kernel
theorem f_231_285 : decode (mB 231) 285 = .ok (.iload 4, 2) := by decide +kernel
theorem f_231_287 : decode (mB 231) 287 = .ok (.iconst 4, 1) := by decide +kernel
theorem f_231_288 : decode (mB 231) 288 = .ok (.if_icmp .ne 12, 3) := by decide +kernel
theorem f_231_291 : decode (mB 231) 291 = .ok (.aload_n 0, 1) := by decide +kernel
theorem f_231_292 : decode (mB 231) 292 = .ok (.invokevirtual 222, 3) := by decide +kernel
theorem f_231_295 : decode (mB 231) 295 = .ok (.ifCond .eq 5, 3) := by decide +kernel
theorem f_231_298 : decode (mB 231) 298 = .ok (.iconst 0, 1) := by decide +kernel
theorem f_231_299 : decode (mB 231) 299 = .ok (.ireturn, 1) := by decide +kernel
theorem f_231_300 : decode (mB 231) 300 = .ok (.aload_n 0, 1) := by decide +kernel
theorem f_231_301 : decode (mB 231) 301 = .ok (.iload 4, 2) := by decide +kernel
theorem f_231_303 : decode (mB 231) 303 = .ok (.invokevirtual 219, 3) := by decide +kernel
theorem f_231_306 : decode (mB 231) 306 = .ok (.aload_n 0, 1) := by decide +kernel
theorem f_231_307 : decode (mB 231) 307 = .ok (.getfield 40, 3) := by decide +kernel
theorem f_231_310 : decode (mB 231) 310 = .ok (.aload_n 0, 1) := by decide +kernel
theorem f_231_311 : decode (mB 231) 311 = .ok (.getfield 204, 3) := by decide +kernel
theorem f_231_314 : decode (mB 231) 314 = .ok (.aload_n 0, 1) := by decide +kernel
theorem f_231_315 : decode (mB 231) 315 = .ok (.getfield 182, 3) := by decide +kernel
theorem f_231_318 : decode (mB 231) 318 = .ok (.iastore, 1) := by decide +kernel
theorem f_231_319 : decode (mB 231) 319 = .ok (.aload_n 0, 1) := by decide +kernel
theorem f_231_320 : decode (mB 231) 320 = .ok (.dup, 1) := by decide +kernel
theorem f_231_321 : decode (mB 231) 321 = .ok (.getfield 204, 3) := by decide +kernel
theorem f_231_324 : decode (mB 231) 324 = .ok (.iconst 1, 1) := by decide +kernel
theorem f_231_325 : decode (mB 231) 325 = .ok (.iadd, 1) := by decide +kernel
theorem f_231_326 : decode (mB 231) 326 = .ok (.putfield 204, 3) := by decide +kernel
theorem f_231_329 : decode (mB 231) 329 = .ok (.iconst 1, 1) := by decide +kernel
theorem f_231_330 : decode (mB 231) 330 = .ok (.istore_n 2, 1) := by decide +kernel
theorem f_231_331 : decode (mB 231) 331 = .ok (.iload 4, 2) := by decide +kernel
theorem f_231_333 : decode (mB 231) 333 = .ok (.iconst 3, 1) := by decide +kernel
theorem f_231_334 : decode (mB 231) 334 = .ok (.if_icmp .ge 7, 3) := by decide +kernel
theorem f_231_337 : decode (mB 231) 337 = .ok (.iconst 1, 1) := by decide +kernel
theorem f_231_338 : decode (mB 231) 338 = .ok (.goto 4, 3) := by decide +kernel
theorem f_231_341 : decode (mB 231) 341 = .ok (.iconst 0, 1) := by decide +kernel
theorem f_231_342 : decode (mB 231) 342 = .ok (.istore_n 3, 1) := by decide +kernel
theorem f_231_343 : decode (mB 231) 343 = .ok (.goto (-323), 3) := by decide +kernel
theorem f_232_0 : decode (mB 232) 0 = .ok (.iconst 0, 1) := by decide +kernel
theorem f_232_1 : decode (mB 232) 1 = .ok (.istore_n 2, 1) := by decide +kernel
theorem f_232_2 : decode (mB 232) 2 = .ok (.iconst 0, 1) := by decide +kernel
theorem f_232_3 : decode (mB 232) 3 = .ok (.istore_n 3, 1) := by decide +kernel
theorem f_232_4 : decode (mB 232) 4 = .ok (.iload_n 3, 1) := by decide +kernel
theorem f_232_5 : decode (mB 232) 5 = .ok (.aload_n 0, 1) := by decide +kernel
theorem f_232_6 : decode (mB 232) 6 = .ok (.getfield 204, 3) := by decide +kernel
theorem f_232_9 : decode (mB 232) 9 = .ok (.if_icmp .ge 27, 3) := by decide +kernel
theorem f_232_12 : decode (mB 232) 12 = .ok (.iload_n 2, 1) := by decide +kernel
theorem f_232_13 : decode (mB 232) 13 = .ok (.aload_n 0, 1) := by decide +kernel
theorem f_232_14 : decode (mB 232) 14 = .ok (.getfield 40, 3) := by decide +kernel
theorem f_232_17 : decode (mB 232) 17 = .ok (.iload_n 3, 1) := by decide +kernel
theorem f_232_18 : decode (mB 232) 18 = .ok (.iaload, 1) := by decide +kernel
theorem f_232_19 : decode (mB 232) 19 = .ok (.iload_n 1, 1) := by decide +kernel
theorem f_232_20 : decode (mB 232) 20 = .ok (.if_icmp .ne 7, 3) := by decide +kernel
theorem f_232_23 : decode (mB 232) 23 = .ok (.iconst 1, 1) := by decide +kernel
theorem f_232_24 : decode (mB 232) 24 = .ok (.goto 4, 3) := by decide +kernel
theorem f_232_27 : decode (mB 232) 27 = .ok (.iconst 0, 1) := by decide +kernel
theorem f_232_28 : decode (mB 232) 28 = .ok (.iadd, 1) := by decide +kernel
theorem f_232_29 : decode (mB 232) 29 = .ok (.istore_n 2, 1) := by decide +kernel
theorem f_232_30 : decode (mB 232) 30 = .ok (.iinc 3 1, 3) := by decide +kernel
theorem f_232_33 : decode (mB 232) 33 = .ok (.goto (-29), 3) := by decide +kernel
theorem f_232_36 : decode (mB 232) 36 = .ok (.iload_n 2, 1) := by decide +kernel
theorem f_232_37 : decode (mB 232) 37 = .ok (.ireturn, 1) := by decide +kernel
theorem f_233_0 : decode (mB 233) 0 = .ok (.aload_n 0, 1) := by decide +kernel
theorem f_233_1 : decode (mB 233) 1 = .ok (.getfield 37, 3) := by decide +kernel
theorem f_233_4 : decode (mB 233) 4 = .ok (.aload_n 0, 1) := by decide +kernel
theorem f_233_5 : decode (mB 233) 5 = .ok (.getfield 201, 3) := by decide +kernel
theorem f_233_8 : decode (mB 233) 8 = .ok (.iload_n 1, 1) := by decide +kernel
theorem f_233_9 : decode (mB 233) 9 = .ok (.iastore, 1) := by decide +kernel
theorem f_233_10 : decode (mB 233) 10 = .ok (.aload_n 0, 1) := by decide +kernel
theorem f_233_11 : decode (mB 233) 11 = .ok (.dup, 1) := by decide +kernel
theorem f_233_12 : decode (mB 233) 12 = .ok (.getfield 201, 3) := by decide +kernel
theorem f_233_15 : decode (mB 233) 15 = .ok (.iconst 1, 1) := by decide +kernel
theorem f_233_16 : decode (mB 233) 16 = .ok (.iadd, 1) := by decide +kernel
theorem f_233_17 : decode (mB 233) 17 = .ok (.putfield 201, 3) := by decide +kernel
theorem f_233_20 : decode (mB 233) 20 = .ok (.return_, 1) := by decide +kernel
theorem f_234_0 : decode (mB 234) 0 = .ok (.aload_n 0, 1) := by decide +kernel
theorem f_234_1 : decode (mB 234) 1 = .ok (.getfield 204, 3) := by decide +kernel
theorem f_234_4 : decode (mB 234) 4 = .ok (.ifCond .le 50, 3) := by decide +kernel
theorem f_234_7 : decode (mB 234) 7 = .ok (.aload_n 0, 1) := by decide +kernel
theorem f_234_8 : decode (mB 234) 8 = .ok (.getfield 40, 3) := by decide +kernel
theorem f_234_11 : decode (mB 234) 11 = .ok (.aload_n 0, 1) := by decide +kernel
theorem f_234_12 : decode (mB 234) 12 = .ok (.getfield 204, 3) := by decide +kernel
theorem f_234_15 : decode (mB 234) 15 = .ok (.iconst 1, 1) := by decide +kernel
theorem f_234_16 : decode (mB 234) 16 = .ok (.isub, 1) := by decide +kernel
theorem f_234_17 : decode (mB 234) 17 = .ok (.iaload, 1) := by decide +kernel
theorem f_234_18 : decode (mB 234) 18 = .ok (.invokestatic 207, 3) := by decide +kernel
theorem f_234_21 : decode (mB 234) 21 = .ok (.iload_n 1, 1) := by decide +kernel
theorem f_234_22 : decode (mB 234) 22 = .ok (.if_icmp .lt 32, 3) := by decide +kernel
theorem f_234_25 : decode (mB 234) 25 = .ok (.aload_n 0, 1) := by decide +kernel
theorem f_234_26 : decode (mB 234) 26 = .ok (.dup, 1) := by decide +kernel
theorem f_234_27 : decode (mB 234) 27 = .ok (.getfield 204, 3) := by decide +kernel
theorem f_234_30 : decode (mB 234) 30 = .ok (.iconst 1, 1) := by decide +kernel
theorem f_234_31 : decode (mB 234) 31 = .ok (.isub, 1) := by decide +kernel
theorem f_234_32 : decode (mB 234) 32 = .ok (.putfield 204, 3) := by decide +kernel
theorem f_234_35 : decode (mB 234) 35 = .ok (.aload_n 0, 1) := by decide +kernel
theorem f_234_36 : decode (mB 234) 36 = .ok (.bipush (-100), 2) := by decide +kernel
theorem f_234_38 : decode (mB 234) 38 = .ok (.aload_n 0, 1) := by decide +kernel
theorem f_234_39 : decode (mB 234) 39 = .ok (.getfield 40, 3) := by decide +kernel
theorem f_234_42 : decode (mB 234) 42 = .ok (.aload_n 0, 1) := by decide +kernel
theorem f_234_43 : decode (mB 234) 43 = .ok (.getfield 204, 3) := by decide +kernel
theorem f_234_46 : decode (mB 234) 46 = .ok (.iaload, 1) := by decide +kernel
theorem f_234_47 : decode (mB 234) 47 = .ok (.isub, 1) := by decide +kernel
theorem f_234_48 : decode (mB 234) 48 = .ok (.invokevirtual 210, 3) := by decide +kernel
theorem f_234_51 : decode (mB 234) 51 = .ok (.goto (-51), 3) := by decide +kernel
theorem f_234_54 : decode (mB 234) 54 = .ok (.return_, 1) := by decide +kernel
theorem f_235_0 : decode (mB 235) 0 = .ok (.iload_n 0, 1) := by decide +kernel
theorem f_235_1 : decode (mB 235) 1 = .ok (.bipush 15, 2) := by decide +kernel
theorem f_235_3 : decode (mB 235) 3 = .ok (.if_icmp .ne 7, 3) := by decide +kernel
theorem f_235_6 : decode (mB 235) 6 = .ok (.iconst 1, 1) := by decide +kernel
theorem f_235_7 : decode (mB 235) 7 = .ok (.goto 60, 3) := by decide +kernel
theorem f_235_10 : decode (mB 235) 10 = .ok (.iload_n 0, 1) := by decide +kernel
theorem f_235_11 : decode (mB 235) 11 = .ok (.bipush 16, 2) := by decide +kernel
theorem f_235_13 : decode (mB 235) 13 = .ok (.if_icmp .ne 7, 3) := by decide +kernel
theorem f_235_16 : decode (mB 235) 16 = .ok (.iconst 2, 1) := by decide +kernel
theorem f_235_17 : decode (mB 235) 17 = .ok (.goto 50, 3) := by decide +kernel
theorem f_235_20 : decode (mB 235) 20 = .ok (.iload_n 0, 1) := by decide +kernel
theorem f_235_21 : decode (mB 235) 21 = .ok (.bipush 17, 2) := by decide +kernel
theorem f_235_23 : decode (mB 235) 23 = .ok (.if_icmp .ne 7, 3) := by decide +kernel
theorem f_235_26 : decode (mB 235) 26 = .ok (.iconst 3, 1) := by decide +kernel
theorem f_235_27 : decode (mB 235) 27 = .ok (.goto 40, 3) := by decide +kernel
theorem f_235_30 : decode (mB 235) 30 = .ok (.iload_n 0, 1) := by decide +kernel
theorem f_235_31 : decode (mB 235) 31 = .ok (.sipush 160, 3) := by decide +kernel
theorem f_235_34 : decode (mB 235) 34 = .ok (.if_icmp .eq 10, 3) := by decide +kernel
theorem f_235_37 : decode (mB 235) 37 = .ok (.iload_n 0, 1) := by decide +kernel
theorem f_235_38 : decode (mB 235) 38 = .ok (.sipush 161, 3) := by decide +kernel
theorem f_235_41 : decode (mB 235) 41 = .ok (.if_icmp .ne 7, 3) := by decide +kernel
theorem f_235_44 : decode (mB 235) 44 = .ok (.iconst 4, 1) := by decide +kernel
theorem f_235_45 : decode (mB 235) 45 = .ok (.goto 22, 3) := by decide +kernel
theorem f_235_48 : decode (mB 235) 48 = .ok (.iload_n 0, 1) := by decide +kernel
theorem f_235_49 : decode (mB 235) 49 = .ok (.sipush 143, 3) := by decide +kernel
theorem f_235_52 : decode (mB 235) 52 = .ok (.if_icmp .eq 10, 3) := by decide +kernel
theorem f_235_55 : decode (mB 235) 55 = .ok (.iload_n 0, 1) := by decide +kernel
theorem f_235_56 : decode (mB 235) 56 = .ok (.sipush 145, 3) := by decide +kernel
theorem f_235_59 : decode (mB 235) 59 = .ok (.if_icmp .ne 7, 3) := by decide +kernel
theorem f_235_62 : decode (mB 235) 62 = .ok (.iconst 5, 1) := by decide +kernel
theorem f_235_63 : decode (mB 235) 63 = .ok (.goto 4, 3) := by decide +kernel
theorem f_235_66 : decode (mB 235) 66 = .ok (.iconst 0, 1) := by decide +kernel
theorem f_235_67 : decode (mB 235) 67 = .ok (.ireturn, 1) := by decide +kernel
theorem f_236_0 : decode (mB 236) 0 = .ok (.aload_n 0, 1) := by decide +kernel
theorem f_236_1 : decode (mB 236) 1 = .ok (.getfield 204, 3) := by decide +kernel
theorem f_236_4 : decode (mB 236) 4 = .ok (.iconst 1, 1) := by decide +kernel
theorem f_236_5 : decode (mB 236) 5 = .ok (.isub, 1) := by decide +kernel
theorem f_236_6 : decode (mB 236) 6 = .ok (.istore_n 1, 1) := by decide +kernel
theorem f_236_7 : decode (mB 236) 7 = .ok (.iload_n 1, 1) := by decide +kernel
theorem f_236_8 : decode (mB 236) 8 = .ok (.ifCond .lt 22, 3) := by decide +kernel
theorem f_236_11 : decode (mB 236) 11 = .ok (.aload_n 0, 1) := by decide +kernel
theorem f_236_12 : decode (mB 236) 12 = .ok (.getfield 40, 3) := by decide +kernel
theorem f_236_15 : decode (mB 236) 15 = .ok (.iload_n 1, 1) := by decide +kernel
theorem f_236_16 : decode (mB 236) 16 = .ok (.iaload, 1) := by decide +kernel
theorem f_236_17 : decode (mB 236) 17 = .ok (.invokestatic 207, 3) := by decide +kernel
theorem f_236_20 : decode (mB 236) 20 = .ok (.iconst 4, 1) := by decide +kernel
theorem f_236_21 : decode (mB 236) 21 = .ok (.if_icmp .le 9, 3) := by decide +kernel
theorem f_236_24 : decode (mB 236) 24 = .ok (.iinc 1 (-1), 3) := by decide +kernel
theorem f_236_27 : decode (mB 236) 27 = .ok (.goto (-20), 3) := by decide +kernel
theorem f_236_30 : decode (mB 236) 30 = .ok (.iload_n 1, 1) := by decide +kernel
theorem f_236_31 : decode (mB 236) 31 = .ok (.ifCond .lt 20, 3) := by decide +kernel
theorem f_236_34 : decode (mB 236) 34 = .ok (.aload_n 0, 1) := by decide +kernel
theorem f_236_35 : decode (mB 236) 35 = .ok (.getfield 40, 3) := by decide +kernel
theorem f_236_38 : decode (mB 236) 38 = .ok (.iload_n 1, 1) := by decide +kernel
theorem f_236_39 : decode (mB 236) 39 = .ok (.iaload, 1) := by decide +kernel
theorem f_236_40 : decode (mB 236) 40 = .ok (.invokestatic 207, 3) := by decide +kernel
theorem f_236_43 : decode (mB 236) 43 = .ok (.iconst 4, 1) := by decide +kernel
theorem f_236_44 : decode (mB 236) 44 = .ok (.if_icmp .ne 7, 3) := by decide +kernel
theorem f_236_47 : decode (mB 236) 47 = .ok (.iconst 1, 1) := by decide +kernel
theorem f_236_48 : decode (mB 236) 48 = .ok (.goto 4, 3) := by decide +kernel
theorem f_236_51 : decode (mB 236) 51 = .ok (.iconst 0, 1) := by decide +kernel
theorem f_236_52 : decode (mB 236) 52 = .ok (.ireturn, 1) := by decide +kernel
theorem f_237_0 : decode (mB 237) 0 = .ok (.iload_n 1, 1) := by decide +kernel
theorem f_237_1 : decode (mB 237) 1 = .ok (.iconst 0, 1) := by decide +kernel
theorem f_237_2 : decode (mB 237) 2 = .ok (.iconst 4, 1) := by decide +kernel
theorem f_237_3 : decode (mB 237) 3 = .ok (.invokestatic 69, 3) := by decide +kernel
theorem f_237_6 : decode (mB 237) 6 = .ok (.ifCond .eq 17, 3) := by decide +kernel
theorem f_237_9 : decode (mB 237) 9 = .ok (.iload_n 2, 1) := by decide +kernel
theorem f_237_10 : decode (mB 237) 10 = .ok (.invokestatic 161, 3) := by decide +kernel
theorem f_237_13 : decode (mB 237) 13 = .ok (.ifCond .eq 10, 3) := by decide +kernel
theorem f_237_16 : decode (mB 237) 16 = .ok (.iload_n 3, 1) := by decide +kernel
theorem f_237_17 : decode (mB 237) 17 = .ok (.invokestatic 164, 3) := by decide +kernel
theorem f_237_20 : decode (mB 237) 20 = .ok (.ifCond .ne 10, 3) := by decide +kernel
theorem f_237_23 : decode (mB 237) 23 = .ok (.aload_n 0, 1) := by decide +kernel
theorem f_237_24 : decode (mB 237) 24 = .ok (.ldc 77, 2) := by decide +kernel
theorem f_237_26 : decode (mB 237) 26 = .ok (.invokevirtual 78, 3) := by decide +kernel
theorem f_237_29 : decode (mB 237) 29 = .ok (.ireturn, 1) := by decide +kernel
theorem f_237_30 : decode (mB 237) 30 = .ok (.aload_n 0, 1) := by decide +kernel
theorem f_237_31 : decode (mB 237) 31 = .ok (.getfield 7, 3) := by decide +kernel
theorem f_237_34 : decode (mB 237) 34 = .ok (.sipush 406, 3) := by decide +kernel
theorem f_237_37 : decode (mB 237) 37 = .ok (.sipush 609, 3) := by decide +kernel
theorem f_237_40 : decode (mB 237) 40 = .ok (.iload_n 1, 1) := by decide +kernel
theorem f_237_41 : decode (mB 237) 41 = .ok (.imul, 1) := by decide +kernel
theorem f_237_42 : decode (mB 237) 42 = .ok (.iadd, 1) := by decide +kernel
theorem f_237_43 : decode (mB 237) 43 = .ok (.iaload, 1) := by decide +kernel
theorem f_237_44 : decode (mB 237) 44 = .ok (.ifCond .ne 10, 3) := by decide +kernel
theorem f_237_47 : decode (mB 237) 47 = .ok (.aload_n 0, 1) := by decide +kernel
theorem f_237_48 : decode (mB 237) 48 = .ok (.ldc 131, 2) := by decide +kernel
theorem f_237_50 : decode (mB 237) 50 = .ok (.invokevirtual 78, 3) := by decide +kernel
theorem f_237_53 : decode (mB 237) 53 = .ok (.ireturn, 1) := by decide +kernel
theorem f_237_54 : decode (mB 237) 54 = .ok (.aload_n 0, 1) := by decide +kernel
theorem f_237_55 : decode (mB 237) 55 = .ok (.getfield 7, 3) := by decide +kernel
theorem f_237_58 : decode (mB 237) 58 = .ok (.iconst 4, 1) := by decide +kernel
theorem f_237_59 : decode (mB 237) 59 = .ok (.iaload, 1) := by decide +kernel
theorem f_237_60 : decode (mB 237) 60 = .ok (.istore 4, 2) := by decide +kernel
theorem f_237_62 : decode (mB 237) 62 = .ok (.iload 4, 2) := by decide +kernel
theorem f_237_64 : decode (mB 237) 64 = .ok (.bipush 12, 2) := by decide +kernel
theorem f_237_66 : decode (mB 237) 66 = .ok (.if_icmp .ne 10, 3) := by decide +kernel
theorem f_237_69 : decode (mB 237) 69 = .ok (.aload_n 0, 1) := by decide +kernel
theorem f_237_70 : decode (mB 237) 70 = .ok (.ldc 82, 2) := by decide +kernel
theorem f_237_72 : decode (mB 237) 72 = .ok (.invokevirtual 78, 3) := by decide +kernel
theorem f_237_75 : decode (mB 237) 75 = .ok (.ireturn, 1) := by decide +kernel
theorem f_237_76 : decode (mB 237) 76 = .ok (.aload_n 0, 1) := by decide +kernel
theorem f_237_77 : decode (mB 237) 77 = .ok (.getfield 7, 3) := by decide +kernel
theorem f_237_80 : decode (mB 237) 80 = .ok (.iconst 4, 1) := by decide +kernel
theorem f_237_81 : decode (mB 237) 81 = .ok (.dup2, 1) := by decide +kernel
theorem f_237_82 : decode (mB 237) 82 = .ok (.iaload, 1) := by decide +kernel
theorem f_237_83 : decode (mB 237) 83 = .ok (.iconst 1, 1) := by decide +kernel
theorem f_237_84 : decode (mB 237) 84 = .ok (.iadd, 1) := by decide +kernel
theorem f_237_85 : decode (mB 237) 85 = .ok (.iastore, 1) := by decide +kernel
theorem f_237_86 : decode (mB 237) 86 = .ok (.aload_n 0, 1) := by decide +kernel
theorem f_237_87 : decode (mB 237) 87 = .ok (.getfield 7, 3) := by decide +kernel
theorem f_237_90 : decode (mB 237) 90 = .ok (.sipush 382, 3) := by decide +kernel
theorem f_237_93 : decode (mB 237) 93 = .ok (.iconst 2, 1) := by decide +kernel
theorem f_237_94 : decode (mB 237) 94 = .ok (.iload 4, 2) := by decide +kernel
theorem f_237_96 : decode (mB 237) 96 = .ok (.imul, 1) := by decide +kernel
theorem f_237_97 : decode (mB 237) 97 = .ok (.iadd, 1) := by decide +kernel
theorem f_237_98 : decode (mB 237) 98 = .ok (.iload_n 2, 1) := by decide +kernel
theorem f_237_99 : decode (mB 237) 99 = .ok (.iastore, 1) := by decide +kernel
theorem f_237_100 : decode (mB 237) 100 = .ok (.aload_n 0, 1) := by decide +kernel
theorem f_237_101 : decode (mB 237) 101 = .ok (.getfield 7, 3) := by decide +kernel
theorem f_237_104 : decode (mB 237) 104 = .ok (.sipush 382, 3) := by decide +kernel
theorem f_237_107 : decode (mB 237) 107 = .ok (.iconst 2, 1) := by decide +kernel
theorem f_237_108 : decode (mB 237) 108 = .ok (.iload 4, 2) := by decide +kernel
theorem f_237_110 : decode (mB 237) 110 = .ok (.imul, 1) := by decide +kernel
theorem f_237_111 : decode (mB 237) 111 = .ok (.iadd, 1) := by decide +kernel
theorem f_237_112 : decode (mB 237) 112 = .ok (.iconst 1, 1) := by decide +kernel
theorem f_237_113 : decode (mB 237) 113 = .ok (.iadd, 1) := by decide +kernel
theorem f_237_114 : decode (mB 237) 114 = .ok (.iload_n 3, 1) := by decide +kernel
theorem f_237_115 : decode (mB 237) 115 = .ok (.iastore, 1) := by decide +kernel
theorem f_237_116 : decode (mB 237) 116 = .ok (.iconst 0, 1) := by decide +kernel
theorem f_237_117 : decode (mB 237) 117 = .ok (.istore 5, 2) := by decide +kernel
theorem f_237_119 : decode (mB 237) 119 = .ok (.iload 5, 2) := by decide +kernel
theorem f_237_121 : decode (mB 237) 121 = .ok (.sipush 609, 3) := by decide +kernel
theorem f_237_124 : decode (mB 237) 124 = .ok (.if_icmp .ge 46, 3) := by decide +kernel
theorem f_237_127 : decode (mB 237) 127 = .ok (.aload_n 0, 1) := by decide +kernel
theorem f_237_128 : decode (mB 237) 128 = .ok (.getfield 7, 3) := by decide +kernel
theorem f_237_131 : decode (mB 237) 131 = .ok (.sipush 406, 3) := by decide +kernel
theorem f_237_134 : decode (mB 237) 134 = .ok (.sipush 609, 3) := by decide +kernel
theorem f_237_137 : decode (mB 237) 137 = .ok (.iconst 5, 1) := by decide +kernel
theorem f_237_138 : decode (mB 237) 138 = .ok (.iload 4, 2) := by decide +kernel
theorem f_237_140 : decode (mB 237) 140 = .ok (.iadd, 1) := by decide +kernel
theorem f_237_141 : decode (mB 237) 141 = .ok (.imul, 1) := by decide +kernel
theorem f_237_142 : decode (mB 237) 142 = .ok (.iadd, 1) := by decide +kernel
theorem f_237_143 : decode (mB 237) 143 = .ok (.iload 5, 2) := by decide +kernel
theorem f_237_145 : decode (mB 237) 145 = .ok (.iadd, 1) := by decide +kernel
theorem f_237_146 : decode (mB 237) 146 = .ok (.aload_n 0, 1) := by decide +kernel
theorem f_237_147 : decode (mB 237) 147 = .ok (.getfield 7, 3) := by decide +kernel
theorem f_237_150 : decode (mB 237) 150 = .ok (.sipush 406, 3) := by decide +kernel
theorem f_237_153 : decode (mB 237) 153 = .ok (.sipush 609, 3) := by decide +kernel
theorem f_237_156 : decode (mB 237) 156 = .ok (.iload_n 1, 1) := by decide +kernel
theorem f_237_157 : decode (mB 237) 157 = .ok (.imul, 1) := by decide +kernel
theorem f_237_158 : decode (mB 237) 158 = .ok (.iadd, 1) := by decide +kernel
theorem f_237_159 : decode (mB 237) 159 = .ok (.iload 5, 2) := by decide +kernel
theorem f_237_161 : decode (mB 237) 161 = .ok (.iadd, 1) := by decide +kernel
theorem f_237_162 : decode (mB 237) 162 = .ok (.iaload, 1) := by decide +kernel
theorem f_237_163 : decode (mB 237) 163 = .ok (.iastore, 1) := by decide +kernel
theorem f_237_164 : decode (mB 237) 164 = .ok (.iinc 5 1, 3) := by decide +kernel
theorem f_237_167 : decode (mB 237) 167 = .ok (.goto (-48), 3) := by decide +kernel
theorem f_237_170 : decode (mB 237) 170 = .ok (.iload 4, 2) := by decide +kernel
theorem f_237_172 : decode (mB 237) 172 = .ok (.ireturn, 1) := by decide +kernel
theorem f_238_0 : decode (mB 238) 0 = .ok (.iload_n 1, 1) := by decide +kernel
theorem f_238_1 : decode (mB 238) 1 = .ok (.invokestatic 161, 3) := by decide +kernel
theorem f_238_4 : decode (mB 238) 4 = .ok (.ifCond .eq 10, 3) := by decide +kernel
theorem f_238_7 : decode (mB 238) 7 = .ok (.iload_n 2, 1) := by decide +kernel
theorem f_238_8 : decode (mB 238) 8 = .ok (.invokestatic 164, 3) := by decide +kernel
theorem f_238_11 : decode (mB 238) 11 = .ok (.ifCond .ne 10, 3) := by decide +kernel
theorem f_238_14 : decode (mB 238) 14 = .ok (.aload_n 0, 1) := by decide +kernel
theorem f_238_15 : decode (mB 238) 15 = .ok (.ldc 77, 2) := by decide +kernel
theorem f_238_17 : decode (mB 238) 17 = .ok (.invokevirtual 78, 3) := by decide +kernel
theorem f_238_20 : decode (mB 238) 20 = .ok (.ireturn, 1) := by decide +kernel
theorem f_238_21 : decode (mB 238) 21 = .ok (.aload_n 0, 1) := by decide +kernel
theorem f_238_22 : decode (mB 238) 22 = .ok (.iload_n 1, 1) := by decide +kernel
theorem f_238_23 : decode (mB 238) 23 = .ok (.iload_n 2, 1) := by decide +kernel
theorem f_238_24 : decode (mB 238) 24 = .ok (.invokevirtual 235, 3) := by decide +kernel
theorem f_238_27 : decode (mB 238) 27 = .ok (.istore_n 3, 1) := by decide +kernel
theorem f_238_28 : decode (mB 238) 28 = .ok (.iload_n 3, 1) := by decide +kernel
theorem f_238_29 : decode (mB 238) 29 = .ok (.ifCond .ge 12, 3) := by decide +kernel
theorem f_238_32 : decode (mB 238) 32 = .ok (.aload_n 0, 1) := by decide +kernel
theorem f_238_33 : decode (mB 238) 33 = .ok (.ldc 131, 2) := by decide +kernel
theorem f_238_35 : decode (mB 238) 35 = .ok (.invokevirtual 78, 3) := by decide +kernel
theorem f_238_38 : decode (mB 238) 38 = .ok (.goto 4, 3) := by decide +kernel
theorem f_238_41 : decode (mB 238) 41 = .ok (.iload_n 3, 1) := by decide +kernel
theorem f_238_42 : decode (mB 238) 42 = .ok (.ireturn, 1) := by decide +kernel
theorem f_239_0 : decode (mB 239) 0 = .ok (.iconst (-1), 1) := by decide +kernel
theorem f_239_1 : decode (mB 239) 1 = .ok (.istore_n 3, 1) := by decide +kernel
theorem f_239_2 : decode (mB 239) 2 = .ok (.iconst 0, 1) := by decide +kernel
theorem f_239_3 : decode (mB 239) 3 = .ok (.istore 4, 2) := by decide +kernel
theorem f_239_5 : decode (mB 239) 5 = .ok (.iload 4, 2) := by decide +kernel
theorem f_239_7 : decode (mB 239) 7 = .ok (.aload_n 0, 1) := by decide +kernel
theorem f_239_8 : decode (mB 239) 8 = .ok (.getfield 7, 3) := by decide +kernel
theorem f_239_11 : decode (mB 239) 11 = .ok (.iconst 4, 1) := by decide +kernel
theorem f_239_12 : decode (mB 239) 12 = .ok (.iaload, 1) := by decide +kernel
theorem f_239_13 : decode (mB 239) 13 = .ok (.if_icmp .ge 52, 3) := by decide +kernel
theorem f_239_16 : decode (mB 239) 16 = .ok (.aload_n 0, 1) := by decide +kernel
theorem f_239_17 : decode (mB 239) 17 = .ok (.getfield 7, 3) := by decide +kernel
theorem f_239_20 : decode (mB 239) 20 = .ok (.sipush 382, 3) := by decide +kernel
theorem f_239_23 : decode (mB 239) 23 = .ok (.iconst 2, 1) := by decide +kernel
theorem f_239_24 : decode (mB 239) 24 = .ok (.iload 4, 2) := by decide +kernel
theorem f_239_26 : decode (mB 239) 26 = .ok (.imul, 1) := by decide +kernel
theorem f_239_27 : decode (mB 239) 27 = .ok (.iadd, 1) := by decide +kernel
theorem f_239_28 : decode (mB 239) 28 = .ok (.iaload, 1) := by decide +kernel
theorem f_239_29 : decode (mB 239) 29 = .ok (.iload_n 1, 1) := by decide +kernel
theorem f_239_30 : decode (mB 239) 30 = .ok (.if_icmp .ne 27, 3) := by decide +kernel
theorem f_239_33 : decode (mB 239) 33 = .ok (.aload_n 0, 1) := by decide +kernel
theorem f_239_34 : decode (mB 239) 34 = .ok (.getfield 7, 3) := by decide +kernel
theorem f_239_37 : decode (mB 239) 37 = .ok (.sipush 382, 3) := by decide +kernel
theorem f_239_40 : decode (mB 239) 40 = .ok (.iconst 2, 1) := by decide +kernel
theorem f_239_41 : decode (mB 239) 41 = .ok (.iload 4, 2) := by decide +kernel
theorem f_239_43 : decode (mB 239) 43 = .ok (.imul, 1) := by decide +kernel
theorem f_239_44 : decode (mB 239) 44 = .ok (.iadd, 1) := by decide +kernel
theorem f_239_45 : decode (mB 239) 45 = .ok (.iconst 1, 1) := by decide +kernel
theorem f_239_46 : decode (mB 239) 46 = .ok (.iadd, 1) := by decide +kernel
theorem f_239_47 : decode (mB 239) 47 = .ok (.iaload, 1) := by decide +kernel
theorem f_239_48 : decode (mB 239) 48 = .ok (.iload_n 2, 1) := by decide +kernel
theorem f_239_49 : decode (mB 239) 49 = .ok (.if_icmp .gt 8, 3) := by decide +kernel
theorem f_239_52 : decode (mB 239) 52 = .ok (.iload 4, 2) := by decide +kernel
theorem f_239_54 : decode (mB 239) 54 = .ok (.goto 4, 3) := by decide +kernel
theorem f_239_57 : decode (mB 239) 57 = .ok (.iload_n 3, 1) := by decide +kernel
theorem f_239_58 : decode (mB 239) 58 = .ok (.istore_n 3, 1) := by decide +kernel
theorem f_239_59 : decode (mB 239) 59 = .ok (.iinc 4 1, 3) := by decide +kernel
theorem f_239_62 : decode (mB 239) 62 = .ok (.goto (-57), 3) := by decide +kernel
theorem f_239_65 : decode (mB 239) 65 = .ok (.iload_n 3, 1) := by decide +kernel
theorem f_239_66 : decode (mB 239) 66 = .ok (.ireturn, 1) := by decide +kernel
theorem f_240_0 : decode (mB 240) 0 = .ok (.aload_n 0, 1) := by decide +kernel
theorem f_240_1 : decode (mB 240) 1 = .ok (.iload_n 1, 1) := by decide +kernel
theorem f_240_2 : decode (mB 240) 2 = .ok (.iload_n 2, 1) := by decide +kernel
theorem f_240_3 : decode (mB 240) 3 = .ok (.iload_n 3, 1) := by decide +kernel
theorem f_240_4 : decode (mB 240) 4 = .ok (.invokevirtual 245, 3) := by decide +kernel
theorem f_240_7 : decode (mB 240) 7 = .ok (.ifCond .eq 20, 3) := by decide +kernel
theorem f_240_10 : decode (mB 240) 10 = .ok (.aload_n 0, 1) := by decide +kernel
theorem f_240_11 : decode (mB 240) 11 = .ok (.iload_n 1, 1) := by decide +kernel
theorem f_240_12 : decode (mB 240) 12 = .ok (.aload_n 0, 1) := by decide +kernel
theorem f_240_13 : decode (mB 240) 13 = .ok (.iload_n 1, 1) := by decide +kernel
theorem f_240_14 : decode (mB 240) 14 = .ok (.iconst 0, 1) := by decide +kernel
theorem f_240_15 : decode (mB 240) 15 = .ok (.invokevirtual 98, 3) := by decide +kernel
theorem f_240_18 : decode (mB 240) 18 = .ok (.iload_n 2, 1) := by decide +kernel
theorem f_240_19 : decode (mB 240) 19 = .ok (.iload_n 3, 1) := by decide +kernel
theorem f_240_20 : decode (mB 240) 20 = .ok (.iconst 0, 1) := by decide +kernel
theorem f_240_21 : decode (mB 240) 21 = .ok (.invokevirtual 248, 3) := by decide +kernel
theorem f_240_24 : decode (mB 240) 24 = .ok (.goto 9, 3) := by decide +kernel
theorem f_240_27 : decode (mB 240) 27 = .ok (.aload_n 0, 1) := by decide +kernel
theorem f_240_28 : decode (mB 240) 28 = .ok (.ldc 77, 2) := by decide +kernel
theorem f_240_30 : decode (mB 240) 30 = .ok (.invokevirtual 78, 3) := by decide +kernel
theorem f_240_33 : decode (mB 240) 33 = .ok (.ireturn, 1) := by decide +kernel
theorem f_241_0 : decode (mB 241) 0 = .ok (.aload_n 0, 1) := by decide +kernel
theorem f_241_1 : decode (mB 241) 1 = .ok (.iload_n 1, 1) := by decide +kernel
theorem f_241_2 : decode (mB 241) 2 = .ok (.invokevirtual 144, 3) := by decide +kernel
theorem f_241_5 : decode (mB 241) 5 = .ok (.ifCond .eq 31, 3) := by decide +kernel
theorem f_241_8 : decode (mB 241) 8 = .ok (.iload_n 2, 1) := by decide +kernel
theorem f_241_9 : decode (mB 241) 9 = .ok (.invokestatic 161, 3) := by decide +kernel
theorem f_241_12 : decode (mB 241) 12 = .ok (.ifCond .eq 24, 3) := by decide +kernel
theorem f_241_15 : decode (mB 241) 15 = .ok (.iload_n 3, 1) := by decide +kernel
theorem f_241_16 : decode (mB 241) 16 = .ok (.invokestatic 164, 3) := by decide +kernel
theorem f_241_19 : decode (mB 241) 19 = .ok (.ifCond .eq 17, 3) := by decide +kernel
theorem f_241_22 : decode (mB 241) 22 = .ok (.iload_n 3, 1) := by decide +kernel
theorem f_241_23 : decode (mB 241) 23 = .ok (.aload_n 0, 1) := by decide +kernel
theorem f_241_24 : decode (mB 241) 24 = .ok (.iload_n 1, 1) := by decide +kernel
theorem f_241_25 : decode (mB 241) 25 = .ok (.iconst 5, 1) := by decide +kernel
theorem f_241_26 : decode (mB 241) 26 = .ok (.invokevirtual 98, 3) := by decide +kernel
theorem f_241_29 : decode (mB 241) 29 = .ok (.if_icmp .lt 7, 3) := by decide +kernel
theorem f_241_32 : decode (mB 241) 32 = .ok (.iconst 1, 1) := by decide +kernel
theorem f_241_33 : decode (mB 241) 33 = .ok (.goto 4, 3) := by decide +kernel
theorem f_241_36 : decode (mB 241) 36 = .ok (.iconst 0, 1) := by decide +kernel
theorem f_241_37 : decode (mB 241) 37 = .ok (.ireturn, 1) := by decide +kernel
theorem f_242_0 : decode (mB 242) 0 = .ok (.aload_n 0, 1) := by decide +kernel
theorem f_242_1 : decode (mB 242) 1 = .ok (.iload_n 1, 1) := by decide +kernel
theorem f_242_2 : decode (mB 242) 2 = .ok (.bipush 8, 2) := by decide +kernel
theorem f_242_4 : decode (mB 242) 4 = .ok (.invokevirtual 98, 3) := by decide +kernel
theorem f_242_7 : decode (mB 242) 7 = .ok (.istore 6, 2) := by decide +kernel
theorem f_242_9 : decode (mB 242) 9 = .ok (.iload 6, 2) := by decide +kernel
theorem f_242_11 : decode (mB 242) 11 = .ok (.iconst 2, 1) := by decide +kernel
theorem f_242_12 : decode (mB 242) 12 = .ok (.if_icmp .ge 25, 3) := by decide +kernel
theorem f_242_15 : decode (mB 242) 15 = .ok (.aload_n 0, 1) := by decide +kernel
theorem f_242_16 : decode (mB 242) 16 = .ok (.iload_n 1, 1) := by decide +kernel
theorem f_242_17 : decode (mB 242) 17 = .ok (.iload_n 2, 1) := by decide +kernel
theorem f_242_18 : decode (mB 242) 18 = .ok (.iload 6, 2) := by decide +kernel
theorem f_242_20 : decode (mB 242) 20 = .ok (.iload_n 3, 1) := by decide +kernel
theorem f_242_21 : decode (mB 242) 21 = .ok (.iload 4, 2) := by decide +kernel
theorem f_242_23 : decode (mB 242) 23 = .ok (.iload 5, 2) := by decide +kernel
theorem f_242_25 : decode (mB 242) 25 = .ok (.invokevirtual 241, 3) := by decide +kernel
theorem f_242_28 : decode (mB 242) 28 = .ok (.ifCond .eq 7, 3) := by decide +kernel
theorem f_242_31 : decode (mB 242) 31 = .ok (.iconst 2, 1) := by decide +kernel
theorem f_242_32 : decode (mB 242) 32 = .ok (.goto 4, 3) := by decide +kernel
theorem f_242_35 : decode (mB 242) 35 = .ok (.iconst 0, 1) := by decide +kernel
theorem f_242_36 : decode (mB 242) 36 = .ok (.ireturn, 1) := by decide +kernel
theorem f_242_37 : decode (mB 242) 37 = .ok (.aload_n 0, 1) := by decide +kernel
theorem f_242_38 : decode (mB 242) 38 = .ok (.iload_n 1, 1) := by decide +kernel
theorem f_242_39 : decode (mB 242) 39 = .ok (.iload_n 2, 1) := by decide +kernel
theorem f_242_40 : decode (mB 242) 40 = .ok (.iconst 0, 1) := by decide +kernel
theorem f_242_41 : decode (mB 242) 41 = .ok (.iload_n 3, 1) := by decide +kernel
theorem f_242_42 : decode (mB 242) 42 = .ok (.iload 4, 2) := by decide +kernel
theorem f_242_44 : decode (mB 242) 44 = .ok (.iload 5, 2) := by decide +kernel
theorem f_242_46 : decode (mB 242) 46 = .ok (.invokevirtual 241, 3) := by decide +kernel
theorem f_242_49 : decode (mB 242) 49 = .ok (.ifCond .eq 7, 3) := by decide +kernel
theorem f_242_52 : decode (mB 242) 52 = .ok (.iconst 1, 1) := by decide +kernel
theorem f_242_53 : decode (mB 242) 53 = .ok (.goto 4, 3) := by decide +kernel
theorem f_242_56 : decode (mB 242) 56 = .ok (.iconst 0, 1) := by decide +kernel
theorem f_242_57 : decode (mB 242) 57 = .ok (.aload_n 0, 1) := by decide +kernel
theorem f_242_58 : decode (mB 242) 58 = .ok (.iload_n 1, 1) := by decide +kernel
theorem f_242_59 : decode (mB 242) 59 = .ok (.iload_n 2, 1) := by decide +kernel
theorem f_242_60 : decode (mB 242) 60 = .ok (.iconst 1, 1) := by decide +kernel
theorem f_242_61 : decode (mB 242) 61 = .ok (.iload_n 3, 1) := by decide +kernel
theorem f_242_62 : decode (mB 242) 62 = .ok (.iload 4, 2) := by decide +kernel
theorem f_242_64 : decode (mB 242) 64 = .ok (.iload 5, 2) := by decide +kernel
theorem f_242_66 : decode (mB 242) 66 = .ok (.invokevirtual 241, 3) := by decide +kernel
theorem f_242_69 : decode (mB 242) 69 = .ok (.ifCond .eq 7, 3) := by decide +kernel
theorem f_242_72 : decode (mB 242) 72 = .ok (.iconst 1, 1) := by decide +kernel
theorem f_242_73 : decode (mB 242) 73 = .ok (.goto 4, 3) := by decide +kernel
theorem f_242_76 : decode (mB 242) 76 = .ok (.iconst 0, 1) := by decide +kernel
theorem f_242_77 : decode (mB 242) 77 = .ok (.iadd, 1) := by decide +kernel
theorem f_242_78 : decode (mB 242) 78 = .ok (.ireturn, 1) := by decide +kernel
theorem f_243_0 : decode (mB 243) 0 = .ok (.aload_n 0, 1) := by decide +kernel
theorem f_243_1 : decode (mB 243) 1 = .ok (.iload 4, 2) := by decide +kernel
theorem f_243_3 : decode (mB 243) 3 = .ok (.iload 5, 2) := by decide +kernel
theorem f_243_5 : decode (mB 243) 5 = .ok (.invokevirtual 235, 3) := by decide +kernel
theorem f_243_8 : decode (mB 243) 8 = .ok (.istore 7, 2) := by decide +kernel
theorem f_243_10 : decode (mB 243) 10 = .ok (.aload_n 0, 1) := by decide +kernel
theorem f_243_11 : decode (mB 243) 11 = .ok (.iload_n 1, 1) := by decide +kernel
theorem f_243_12 : decode (mB 243) 12 = .ok (.bipush 7, 2) := by decide +kernel
theorem f_243_14 : decode (mB 243) 14 = .ok (.invokevirtual 98, 3) := by decide +kernel
theorem f_243_17 : decode (mB 243) 17 = .ok (.istore 8, 2) := by decide +kernel
theorem f_243_19 : decode (mB 243) 19 = .ok (.iload 7, 2) := by decide +kernel
theorem f_243_21 : decode (mB 243) 21 = .ok (.ifCond .ge 5, 3) := by decide +kernel
theorem f_243_24 : decode (mB 243) 24 = .ok (.iconst 0, 1) := by decide +kernel
theorem f_243_25 : decode (mB 243) 25 = .ok (.ireturn, 1) := by decide +kernel
theorem f_243_26 : decode (mB 243) 26 = .ok (.aload_n 0, 1) := by decide +kernel
theorem f_243_27 : decode (mB 243) 27 = .ok (.getfield 46, 3) := by decide +kernel
theorem f_243_30 : decode (mB 243) 30 = .ok (.iconst 0, 1) := by decide +kernel
theorem f_243_31 : decode (mB 243) 31 = .ok (.iload_n 2, 1) := by decide +kernel
theorem f_243_32 : decode (mB 243) 32 = .ok (.iastore, 1) := by decide +kernel
theorem f_243_33 : decode (mB 243) 33 = .ok (.aload_n 0, 1) := by decide +kernel
theorem f_243_34 : decode (mB 243) 34 = .ok (.getfield 46, 3) := by decide +kernel
theorem f_243_37 : decode (mB 243) 37 = .ok (.iconst 1, 1) := by decide +kernel
theorem f_243_38 : decode (mB 243) 38 = .ok (.iload 5, 2) := by decide +kernel
theorem f_243_40 : decode (mB 243) 40 = .ok (.aload_n 0, 1) := by decide +kernel
theorem f_243_41 : decode (mB 243) 41 = .ok (.iload_n 1, 1) := by decide +kernel
theorem f_243_42 : decode (mB 243) 42 = .ok (.iconst 5, 1) := by decide +kernel
theorem f_243_43 : decode (mB 243) 43 = .ok (.invokevirtual 98, 3) := by decide +kernel
theorem f_243_46 : decode (mB 243) 46 = .ok (.isub, 1) := by decide +kernel
theorem f_243_47 : decode (mB 243) 47 = .ok (.iastore, 1) := by decide +kernel
theorem f_243_48 : decode (mB 243) 48 = .ok (.aload_n 0, 1) := by decide +kernel
theorem f_243_49 : decode (mB 243) 49 = .ok (.getfield 46, 3) := by decide +kernel
theorem f_243_52 : decode (mB 243) 52 = .ok (.iconst 2, 1) := by decide +kernel
theorem f_243_53 : decode (mB 243) 53 = .ok (.aload_n 0, 1) := by decide +kernel
theorem f_243_54 : decode (mB 243) 54 = .ok (.iload 4, 2) := by decide +kernel
theorem f_243_56 : decode (mB 243) 56 = .ok (.iload 5, 2) := by decide +kernel
theorem f_243_58 : decode (mB 243) 58 = .ok (.invokevirtual 167, 3) := by decide +kernel
theorem f_243_61 : decode (mB 243) 61 = .ok (.iastore, 1) := by decide +kernel
theorem f_243_62 : decode (mB 243) 62 = .ok (.aload_n 0, 1) := by decide +kernel
theorem f_243_63 : decode (mB 243) 63 = .ok (.getfield 46, 3) := by decide +kernel
theorem f_243_66 : decode (mB 243) 66 = .ok (.iconst 3, 1) := by decide +kernel
theorem f_243_67 : decode (mB 243) 67 = .ok (.aload_n 0, 1) := by decide +kernel
theorem f_243_68 : decode (mB 243) 68 = .ok (.iload_n 1, 1) := by decide +kernel
theorem f_243_69 : decode (mB 243) 69 = .ok (.invokevirtual 101, 3) := by decide +kernel
theorem f_243_72 : decode (mB 243) 72 = .ok (.iastore, 1) := by decide +kernel
theorem f_243_73 : decode (mB 243) 73 = .ok (.aload_n 0, 1) := by decide +kernel
theorem f_243_74 : decode (mB 243) 74 = .ok (.getfield 46, 3) := by decide +kernel
theorem f_243_77 : decode (mB 243) 77 = .ok (.iconst 4, 1) := by decide +kernel
theorem f_243_78 : decode (mB 243) 78 = .ok (.aload_n 0, 1) := by decide +kernel
theorem f_243_79 : decode (mB 243) 79 = .ok (.iload_n 1, 1) := by decide +kernel
theorem f_243_80 : decode (mB 243) 80 = .ok (.iconst 4, 1) := by decide +kernel
theorem f_243_81 : decode (mB 243) 81 = .ok (.invokevirtual 98, 3) := by decide +kernel
theorem f_243_84 : decode (mB 243) 84 = .ok (.iastore, 1) := by decide +kernel
theorem f_243_85 : decode (mB 243) 85 = .ok (.aload_n 0, 1) := by decide +kernel
theorem f_243_86 : decode (mB 243) 86 = .ok (.getfield 46, 3) := by decide +kernel
theorem f_243_89 : decode (mB 243) 89 = .ok (.iconst 5, 1) := by decide +kernel
theorem f_243_90 : decode (mB 243) 90 = .ok (.aload_n 0, 1) := by decide +kernel
theorem f_243_91 : decode (mB 243) 91 = .ok (.iload_n 1, 1) := by decide +kernel
theorem f_243_92 : decode (mB 243) 92 = .ok (.iconst 3, 1) := by decide +kernel
theorem f_243_93 : decode (mB 243) 93 = .ok (.invokevirtual 98, 3) := by decide +kernel
theorem f_243_96 : decode (mB 243) 96 = .ok (.iastore, 1) := by decide +kernel
theorem f_243_97 : decode (mB 243) 97 = .ok (.aload_n 0, 1) := by decide +kernel
theorem f_243_98 : decode (mB 243) 98 = .ok (.getfield 46, 3) := by decide +kernel
theorem f_243_101 : decode (mB 243) 101 = .ok (.bipush 6, 2) := by decide +kernel
theorem f_243_103 : decode (mB 243) 103 = .ok (.iload 8, 2) := by decide +kernel
theorem f_243_105 : decode (mB 243) 105 = .ok (.ifCond .ge 7, 3) := by decide +kernel
theorem f_243_108 : decode (mB 243) 108 = .ok (.iconst 0, 1) := by decide +kernel
theorem f_243_109 : decode (mB 243) 109 = .ok (.goto 10, 3) := by decide +kernel
theorem f_243_112 : decode (mB 243) 112 = .ok (.aload_n 0, 1) := by decide +kernel
theorem f_243_113 : decode (mB 243) 113 = .ok (.iload 8, 2) := by decide +kernel
theorem f_243_115 : decode (mB 243) 115 = .ok (.iconst 0, 1) := by decide +kernel
theorem f_243_116 : decode (mB 243) 116 = .ok (.invokevirtual 111, 3) := by decide +kernel
theorem f_243_119 : decode (mB 243) 119 = .ok (.iastore, 1) := by decide +kernel
theorem f_243_120 : decode (mB 243) 120 = .ok (.aload_n 0, 1) := by decide +kernel
theorem f_243_121 : decode (mB 243) 121 = .ok (.getfield 46, 3) := by decide +kernel
theorem f_243_124 : decode (mB 243) 124 = .ok (.bipush 7, 2) := by decide +kernel
theorem f_243_126 : decode (mB 243) 126 = .ok (.iload_n 3, 1) := by decide +kernel
theorem f_243_127 : decode (mB 243) 127 = .ok (.iastore, 1) := by decide +kernel
theorem f_243_128 : decode (mB 243) 128 = .ok (.aload_n 0, 1) := by decide +kernel
theorem f_243_129 : decode (mB 243) 129 = .ok (.getfield 46, 3) := by decide +kernel
theorem f_243_132 : decode (mB 243) 132 = .ok (.bipush 8, 2) := by decide +kernel
theorem f_243_134 : decode (mB 243) 134 = .ok (.aload_n 0, 1) := by decide +kernel
theorem f_243_135 : decode (mB 243) 135 = .ok (.aload_n 0, 1) := by decide +kernel
theorem f_243_136 : decode (mB 243) 136 = .ok (.iload_n 1, 1) := by decide +kernel
theorem f_243_137 : decode (mB 243) 137 = .ok (.iconst 1, 1) := by decide +kernel
theorem f_243_138 : decode (mB 243) 138 = .ok (.invokevirtual 98, 3) := by decide +kernel
theorem f_243_141 : decode (mB 243) 141 = .ok (.iconst 4, 1) := by decide +kernel
theorem f_243_142 : decode (mB 243) 142 = .ok (.invokevirtual 73, 3) := by decide +kernel
theorem f_243_145 : decode (mB 243) 145 = .ok (.aload_n 0, 1) := by decide +kernel
theorem f_243_146 : decode (mB 243) 146 = .ok (.aload_n 0, 1) := by decide +kernel
theorem f_243_147 : decode (mB 243) 147 = .ok (.iload_n 1, 1) := by decide +kernel
theorem f_243_148 : decode (mB 243) 148 = .ok (.iconst 2, 1) := by decide +kernel
theorem f_243_149 : decode (mB 243) 149 = .ok (.invokevirtual 98, 3) := by decide +kernel
theorem f_243_152 : decode (mB 243) 152 = .ok (.iconst 4, 1) := by decide +kernel
theorem f_243_153 : decode (mB 243) 153 = .ok (.invokevirtual 73, 3) := by decide +kernel
theorem f_243_156 : decode (mB 243) 156 = .ok (.ior, 1) := by decide +kernel
theorem f_243_157 : decode (mB 243) 157 = .ok (.iastore, 1) := by decide +kernel
theorem f_243_158 : decode (mB 243) 158 = .ok (.aload_n 0, 1) := by decide +kernel
theorem f_243_159 : decode (mB 243) 159 = .ok (.getfield 46, 3) := by decide +kernel
theorem f_243_162 : decode (mB 243) 162 = .ok (.bipush 9, 2) := by decide +kernel
theorem f_243_164 : decode (mB 243) 164 = .ok (.iload 8, 2) := by decide +kernel
theorem f_243_166 : decode (mB 243) 166 = .ok (.ifCond .ge 7, 3) := by decide +kernel
theorem f_243_169 : decode (mB 243) 169 = .ok (.iconst 0, 1) := by decide +kernel
theorem f_243_170 : decode (mB 243) 170 = .ok (.goto 10, 3) := by decide +kernel
theorem f_243_173 : decode (mB 243) 173 = .ok (.aload_n 0, 1) := by decide +kernel
theorem f_243_174 : decode (mB 243) 174 = .ok (.iload 8, 2) := by decide +kernel
theorem f_243_176 : decode (mB 243) 176 = .ok (.iconst 3, 1) := by decide +kernel
theorem f_243_177 : decode (mB 243) 177 = .ok (.invokevirtual 111, 3) := by decide +kernel
theorem f_243_180 : decode (mB 243) 180 = .ok (.iastore, 1) := by decide +kernel
theorem f_243_181 : decode (mB 243) 181 = .ok (.aload_n 0, 1) := by decide +kernel
theorem f_243_182 : decode (mB 243) 182 = .ok (.getfield 46, 3) := by decide +kernel
theorem f_243_185 : decode (mB 243) 185 = .ok (.bipush 10, 2) := by decide +kernel
theorem f_243_187 : decode (mB 243) 187 = .ok (.aload_n 0, 1) := by decide +kernel
theorem f_243_188 : decode (mB 243) 188 = .ok (.iload_n 1, 1) := by decide +kernel
theorem f_243_189 : decode (mB 243) 189 = .ok (.bipush 6, 2) := by decide +kernel
theorem f_243_191 : decode (mB 243) 191 = .ok (.invokevirtual 98, 3) := by decide +kernel
theorem f_243_194 : decode (mB 243) 194 = .ok (.aload_n 0, 1) := by decide +kernel
theorem f_243_195 : decode (mB 243) 195 = .ok (.iload_n 1, 1) := by decide +kernel
theorem f_243_196 : decode (mB 243) 196 = .ok (.iconst 5, 1) := by decide +kernel
theorem f_243_197 : decode (mB 243) 197 = .ok (.invokevirtual 98, 3) := by decide +kernel
theorem f_243_200 : decode (mB 243) 200 = .ok (.isub, 1) := by decide +kernel
theorem f_243_201 : decode (mB 243) 201 = .ok (.iastore, 1) := by decide +kernel
theorem f_243_202 : decode (mB 243) 202 = .ok (.aload_n 0, 1) := by decide +kernel
theorem f_243_203 : decode (mB 243) 203 = .ok (.iload 7, 2) := by decide +kernel
theorem f_243_205 : decode (mB 243) 205 = .ok (.iload 6, 2) := by decide +kernel
theorem f_243_207 : decode (mB 243) 207 = .ok (.invokevirtual 238, 3) := by decide +kernel
theorem f_243_210 : decode (mB 243) 210 = .ok (.ireturn, 1) := by decide +kernel
theorem f_244_0 : decode (mB 244) 0 = .ok (.sipush 406, 3) := by decide +kernel
theorem f_244_3 : decode (mB 244) 3 = .ok (.sipush 609, 3) := by decide +kernel
theorem f_244_6 : decode (mB 244) 6 = .ok (.iconst 5, 1) := by decide +kernel
theorem f_244_7 : decode (mB 244) 7 = .ok (.iload_n 1, 1) := by decide +kernel
theorem f_244_8 : decode (mB 244) 8 = .ok (.iadd, 1) := by decide +kernel
theorem f_244_9 : decode (mB 244) 9 = .ok (.imul, 1) := by decide +kernel
theorem f_244_10 : decode (mB 244) 10 = .ok (.iadd, 1) := by decide +kernel
theorem f_244_11 : decode (mB 244) 11 = .ok (.sipush 203, 3) := by decide +kernel
theorem f_244_14 : decode (mB 244) 14 = .ok (.iload_n 2, 1) := by decide +kernel
theorem f_244_15 : decode (mB 244) 15 = .ok (.imul, 1) := by decide +kernel
theorem f_244_16 : decode (mB 244) 16 = .ok (.iadd, 1) := by decide +kernel
theorem f_244_17 : decode (mB 244) 17 = .ok (.istore_n 3, 1) := by decide +kernel
theorem f_244_18 : decode (mB 244) 18 = .ok (.iconst 0, 1) := by decide +kernel
theorem f_244_19 : decode (mB 244) 19 = .ok (.istore 4, 2) := by decide +kernel
theorem f_244_21 : decode (mB 244) 21 = .ok (.iload_n 3, 1) := by decide +kernel
theorem f_244_22 : decode (mB 244) 22 = .ok (.iconst 1, 1) := by decide +kernel
theorem f_244_23 : decode (mB 244) 23 = .ok (.iadd, 1) := by decide +kernel
theorem f_244_24 : decode (mB 244) 24 = .ok (.istore 5, 2) := by decide +kernel
theorem f_244_26 : decode (mB 244) 26 = .ok (.iload 5, 2) := by decide +kernel
theorem f_244_28 : decode (mB 244) 28 = .ok (.iload_n 3, 1) := by decide +kernel
theorem f_244_29 : decode (mB 244) 29 = .ok (.aload_n 0, 1) := by decide +kernel
theorem f_244_30 : decode (mB 244) 30 = .ok (.getfield 7, 3) := by decide +kernel
theorem f_244_33 : decode (mB 244) 33 = .ok (.iload_n 3, 1) := by decide +kernel
theorem f_244_34 : decode (mB 244) 34 = .ok (.iaload, 1) := by decide +kernel
theorem f_244_35 : decode (mB 244) 35 = .ok (.iadd, 1) := by decide +kernel
theorem f_244_36 : decode (mB 244) 36 = .ok (.if_icmp .gt 129, 3) := by decide +kernel
theorem f_244_39 : decode (mB 244) 39 = .ok (.aload_n 0, 1) := by decide +kernel
theorem f_244_40 : decode (mB 244) 40 = .ok (.getfield 7, 3) := by decide +kernel
theorem f_244_43 : decode (mB 244) 43 = .ok (.iload 5, 2) := by decide +kernel
theorem f_244_45 : decode (mB 244) 45 = .ok (.iaload, 1) := by decide +kernel
theorem f_244_46 : decode (mB 244) 46 = .ok (.istore 6, 2) := by decide +kernel
theorem f_244_48 : decode (mB 244) 48 = .ok (.iload 6, 2) := by decide +kernel
theorem f_244_50 : decode (mB 244) 50 = .ok (.bipush (-100), 2) := by decide +kernel
theorem f_244_52 : decode (mB 244) 52 = .ok (.if_icmp .le 35, 3) := by decide +kernel
theorem f_244_55 : decode (mB 244) 55 = .ok (.aload_n 0, 1) := by decide +kernel
theorem f_244_56 : decode (mB 244) 56 = .ok (.getfield 43, 3) := by decide +kernel
theorem f_244_59 : decode (mB 244) 59 = .ok (.iload 4, 2) := by decide +kernel
theorem f_244_61 : decode (mB 244) 61 = .ok (.iload 6, 2) := by decide +kernel
theorem f_244_63 : decode (mB 244) 63 = .ok (.ifCond .ge 15, 3) := by decide +kernel
theorem f_244_66 : decode (mB 244) 66 = .ok (.aload_n 0, 1) := by decide +kernel
theorem f_244_67 : decode (mB 244) 67 = .ok (.getfield 46, 3) := by decide +kernel
theorem f_244_70 : decode (mB 244) 70 = .ok (.iconst (-1), 1) := by decide +kernel
theorem f_244_71 : decode (mB 244) 71 = .ok (.iload 6, 2) := by decide +kernel
theorem f_244_73 : decode (mB 244) 73 = .ok (.isub, 1) := by decide +kernel
theorem f_244_74 : decode (mB 244) 74 = .ok (.iaload, 1) := by decide +kernel
theorem f_244_75 : decode (mB 244) 75 = .ok (.goto 5, 3) := by decide +kernel
theorem f_244_78 : decode (mB 244) 78 = .ok (.iload 6, 2) := by decide +kernel
theorem f_244_80 : decode (mB 244) 80 = .ok (.iastore, 1) := by decide +kernel
theorem f_244_81 : decode (mB 244) 81 = .ok (.iinc 4 1, 3) := by decide +kernel
theorem f_244_84 : decode (mB 244) 84 = .ok (.goto 75, 3) := by decide +kernel
theorem f_244_87 : decode (mB 244) 87 = .ok (.iload 6, 2) := by decide +kernel
theorem f_244_89 : decode (mB 244) 89 = .ok (.bipush (-117), 2) := by decide +kernel
theorem f_244_91 : decode (mB 244) 91 = .ok (.if_icmp .ne 32, 3) := by decide +kernel
theorem f_244_94 : decode (mB 244) 94 = .ok (.aload_n 0, 1) := by decide +kernel
theorem f_244_95 : decode (mB 244) 95 = .ok (.getfield 43, 3) := by decide +kernel
theorem f_244_98 : decode (mB 244) 98 = .ok (.iload 4, 2) := by decide +kernel
theorem f_244_100 : decode (mB 244) 100 = .ok (.iconst 1, 1) := by decide +kernel
theorem f_244_101 : decode (mB 244) 101 = .ok (.isub, 1) := by decide +kernel
theorem f_244_102 : decode (mB 244) 102 = .ok (.aload_n 0, 1) := by decide +kernel
theorem f_244_103 : decode (mB 244) 103 = .ok (.getfield 43, 3) := by decide +kernel
theorem f_244_106 : decode (mB 244) 106 = .ok (.iload 4, 2) := by decide +kernel
theorem f_244_108 : decode (mB 244) 108 = .ok (.iconst 1, 1) := by decide +kernel
theorem f_244_109 : decode (mB 244) 109 = .ok (.isub, 1) := by decide +kernel
theorem f_244_110 : decode (mB 244) 110 = .ok (.iaload, 1) := by decide +kernel
theorem f_244_111 : decode (mB 244) 111 = .ok (.ifCond .ne 7, 3) := by decide +kernel
theorem f_244_114 : decode (mB 244) 114 = .ok (.iconst 1, 1) := by decide +kernel
theorem f_244_115 : decode (mB 244) 115 = .ok (.goto 4, 3) := by decide +kernel
theorem f_244_118 : decode (mB 244) 118 = .ok (.iconst 0, 1) := by decide +kernel
theorem f_244_119 : decode (mB 244) 119 = .ok (.iastore, 1) := by decide +kernel
theorem f_244_120 : decode (mB 244) 120 = .ok (.goto 39, 3) := by decide +kernel
theorem f_244_123 : decode (mB 244) 123 = .ok (.iinc 4 (-1), 3) := by decide +kernel
theorem f_244_126 : decode (mB 244) 126 = .ok (.aload_n 0, 1) := by decide +kernel
theorem f_244_127 : decode (mB 244) 127 = .ok (.getfield 43, 3) := by decide +kernel
theorem f_244_130 : decode (mB 244) 130 = .ok (.iload 4, 2) := by decide +kernel
theorem f_244_132 : decode (mB 244) 132 = .ok (.iconst 1, 1) := by decide +kernel
theorem f_244_133 : decode (mB 244) 133 = .ok (.isub, 1) := by decide +kernel
theorem f_244_134 : decode (mB 244) 134 = .ok (.bipush (-100), 2) := by decide +kernel
theorem f_244_136 : decode (mB 244) 136 = .ok (.iload 6, 2) := by decide +kernel
theorem f_244_138 : decode (mB 244) 138 = .ok (.isub, 1) := by decide +kernel
theorem f_244_139 : decode (mB 244) 139 = .ok (.aload_n 0, 1) := by decide +kernel
theorem f_244_140 : decode (mB 244) 140 = .ok (.getfield 43, 3) := by decide +kernel
theorem f_244_143 : decode (mB 244) 143 = .ok (.iload 4, 2) := by decide +kernel
theorem f_244_145 : decode (mB 244) 145 = .ok (.iconst 1, 1) := by decide +kernel
theorem f_244_146 : decode (mB 244) 146 = .ok (.isub, 1) := by decide +kernel
theorem f_244_147 : decode (mB 244) 147 = .ok (.iaload, 1) := by decide +kernel
theorem f_244_148 : decode (mB 244) 148 = .ok (.aload_n 0, 1) := by decide +kernel
theorem f_244_149 : decode (mB 244) 149 = .ok (.getfield 43, 3) := by decide +kernel
theorem f_244_152 : decode (mB 244) 152 = .ok (.iload 4, 2) := by decide +kernel
theorem f_244_154 : decode (mB 244) 154 = .ok (.iaload, 1) := by decide +kernel
theorem f_244_155 : decode (mB 244) 155 = .ok (.invokestatic 232, 3) := by decide +kernel
theorem f_244_158 : decode (mB 244) 158 = .ok (.iastore, 1) := by decide +kernel
theorem f_244_159 : decode (mB 244) 159 = .ok (.iinc 5 1, 3) := by decide +kernel
theorem f_244_162 : decode (mB 244) 162 = .ok (.goto (-136), 3) := by decide +kernel
theorem f_244_165 : decode (mB 244) 165 = .ok (.aload_n 0, 1) := by decide +kernel
theorem f_244_166 : decode (mB 244) 166 = .ok (.getfield 43, 3) := by decide +kernel
theorem f_244_169 : decode (mB 244) 169 = .ok (.iconst 0, 1) := by decide +kernel
theorem f_244_170 : decode (mB 244) 170 = .ok (.iaload, 1) := by decide +kernel
theorem f_244_171 : decode (mB 244) 171 = .ok (.ifCond .eq 7, 3) := by decide +kernel
theorem f_244_174 : decode (mB 244) 174 = .ok (.iconst 1, 1) := by decide +kernel
theorem f_244_175 : decode (mB 244) 175 = .ok (.goto 4, 3) := by decide +kernel
theorem f_244_178 : decode (mB 244) 178 = .ok (.iconst 0, 1) := by decide +kernel
theorem f_244_179 : decode (mB 244) 179 = .ok (.ireturn, 1) := by decide +kernel
theorem f_245_0 : decode (mB 245) 0 = .ok (.iload_n 0, 1) := by decide +kernel
theorem f_245_1 : decode (mB 245) 1 = .ok (.lookupswitch 105 #[(15, 51), (16, 65), (143, 101), (160, 79), (161, 90)], 51) := by decide +kernel
theorem f_245_52 : decode (mB 245) 52 = .ok (.iload_n 1, 1) := by decide +kernel
theorem f_245_53 : decode (mB 245) 53 = .ok (.ifCond .ne 7, 3) := by decide +kernel
theorem f_245_56 : decode (mB 245) 56 = .ok (.iload_n 2, 1) := by decide +kernel
theorem f_245_57 : decode (mB 245) 57 = .ok (.ifCond .eq 7, 3) := by decide +kernel
theorem f_245_60 : decode (mB 245) 60 = .ok (.iconst 1, 1) := by decide +kernel
theorem f_245_61 : decode (mB 245) 61 = .ok (.goto 4, 3) := by decide +kernel
theorem f_245_64 : decode (mB 245) 64 = .ok (.iconst 0, 1) := by decide +kernel
theorem f_245_65 : decode (mB 245) 65 = .ok (.ireturn, 1) := by decide +kernel
theorem f_245_66 : decode (mB 245) 66 = .ok (.iload_n 1, 1) := by decide +kernel
theorem f_245_67 : decode (mB 245) 67 = .ok (.ifCond .eq 11, 3) := by decide +kernel
theorem f_245_70 : decode (mB 245) 70 = .ok (.iload_n 2, 1) := by decide +kernel
theorem f_245_71 : decode (mB 245) 71 = .ok (.ifCond .eq 7, 3) := by decide +kernel
theorem f_245_74 : decode (mB 245) 74 = .ok (.iconst 1, 1) := by decide +kernel
theorem f_245_75 : decode (mB 245) 75 = .ok (.goto 4, 3) := by decide +kernel
theorem f_245_78 : decode (mB 245) 78 = .ok (.iconst 0, 1) := by decide +kernel
theorem f_245_79 : decode (mB 245) 79 = .ok (.ireturn, 1) := by decide +kernel
theorem f_245_80 : decode (mB 245) 80 = .ok (.iload_n 1, 1) := by decide +kernel
theorem f_245_81 : decode (mB 245) 81 = .ok (.iload_n 2, 1) := by decide +kernel
theorem f_245_82 : decode (mB 245) 82 = .ok (.if_icmp .ge 7, 3) := by decide +kernel
theorem f_245_85 : decode (mB 245) 85 = .ok (.iconst 1, 1) := by decide +kernel
theorem f_245_86 : decode (mB 245) 86 = .ok (.goto 4, 3) := by decide +kernel
theorem f_245_89 : decode (mB 245) 89 = .ok (.iconst 0, 1) := by decide +kernel
theorem f_245_90 : decode (mB 245) 90 = .ok (.ireturn, 1) := by decide +kernel
theorem f_245_91 : decode (mB 245) 91 = .ok (.iload_n 1, 1) := by decide +kernel
theorem f_245_92 : decode (mB 245) 92 = .ok (.iload_n 2, 1) := by decide +kernel
theorem f_245_93 : decode (mB 245) 93 = .ok (.if_icmp .ne 7, 3) := by decide +kernel
theorem f_245_96 : decode (mB 245) 96 = .ok (.iconst 1, 1) := by decide +kernel
theorem f_245_97 : decode (mB 245) 97 = .ok (.goto 4, 3) := by decide +kernel
theorem f_245_100 : decode (mB 245) 100 = .ok (.iconst 0, 1) := by decide +kernel
theorem f_245_101 : decode (mB 245) 101 = .ok (.ireturn, 1) := by decide +kernel
theorem f_245_102 : decode (mB 245) 102 = .ok (.iload_n 1, 1) := by decide +kernel
theorem f_245_103 : decode (mB 245) 103 = .ok (.iload_n 2, 1) := by decide +kernel
theorem f_245_104 : decode (mB 245) 104 = .ok (.iadd, 1) := by decide +kernel
theorem f_245_105 : decode (mB 245) 105 = .ok (.ireturn, 1) := by decide +kernel
theorem f_245_106 : decode (mB 245) 106 = .ok (.iload_n 1, 1) := by decide +kernel
theorem f_245_107 : decode (mB 245) 107 = .ok (.iload_n 2, 1) := by decide +kernel
theorem f_245_108 : decode (mB 245) 108 = .ok (.isub, 1) := by decide +kernel
theorem f_245_109 : decode (mB 245) 109 = .ok (.ireturn, 1) := by decide +kernel
theorem f_246_0 : decode (mB 246) 0 = .ok (.aload_n 0, 1) := by decide +kernel
theorem f_246_1 : decode (mB 246) 1 = .ok (.iload_n 1, 1) := by decide +kernel
theorem f_246_2 : decode (mB 246) 2 = .ok (.iload_n 2, 1) := by decide +kernel
theorem f_246_3 : decode (mB 246) 3 = .ok (.iload_n 3, 1) := by decide +kernel
theorem f_246_4 : decode (mB 246) 4 = .ok (.invokevirtual 245, 3) := by decide +kernel
theorem f_246_7 : decode (mB 246) 7 = .ok (.ifCond .eq 20, 3) := by decide +kernel
theorem f_246_10 : decode (mB 246) 10 = .ok (.aload_n 0, 1) := by decide +kernel
theorem f_246_11 : decode (mB 246) 11 = .ok (.iload_n 1, 1) := by decide +kernel
theorem f_246_12 : decode (mB 246) 12 = .ok (.aload_n 0, 1) := by decide +kernel
theorem f_246_13 : decode (mB 246) 13 = .ok (.iload_n 1, 1) := by decide +kernel
theorem f_246_14 : decode (mB 246) 14 = .ok (.iconst 0, 1) := by decide +kernel
theorem f_246_15 : decode (mB 246) 15 = .ok (.invokevirtual 98, 3) := by decide +kernel
theorem f_246_18 : decode (mB 246) 18 = .ok (.iload_n 2, 1) := by decide +kernel
theorem f_246_19 : decode (mB 246) 19 = .ok (.iload_n 3, 1) := by decide +kernel
theorem f_246_20 : decode (mB 246) 20 = .ok (.iconst 2, 1) := by decide +kernel
theorem f_246_21 : decode (mB 246) 21 = .ok (.invokevirtual 248, 3) := by decide +kernel
theorem f_246_24 : decode (mB 246) 24 = .ok (.goto 9, 3) := by decide +kernel
theorem f_246_27 : decode (mB 246) 27 = .ok (.aload_n 0, 1) := by decide +kernel
theorem f_246_28 : decode (mB 246) 28 = .ok (.ldc 77, 2) := by decide +kernel
theorem f_246_30 : decode (mB 246) 30 = .ok (.invokevirtual 78, 3) := by decide +kernel
theorem f_246_33 : decode (mB 246) 33 = .ok (.ireturn, 1) := by decide +kernel
theorem f_247_0 : decode (mB 247) 0 = .ok (.aload_n 0, 1) := by decide +kernel
theorem f_247_1 : decode (mB 247) 1 = .ok (.iload_n 1, 1) := by decide +kernel
theorem f_247_2 : decode (mB 247) 2 = .ok (.invokevirtual 114, 3) := by decide +kernel
theorem f_247_5 : decode (mB 247) 5 = .ok (.ifCond .eq 17, 3) := by decide +kernel
theorem f_247_8 : decode (mB 247) 8 = .ok (.iload_n 2, 1) := by decide +kernel
theorem f_247_9 : decode (mB 247) 9 = .ok (.invokestatic 161, 3) := by decide +kernel
theorem f_247_12 : decode (mB 247) 12 = .ok (.ifCond .eq 10, 3) := by decide +kernel
theorem f_247_15 : decode (mB 247) 15 = .ok (.iload_n 3, 1) := by decide +kernel
theorem f_247_16 : decode (mB 247) 16 = .ok (.invokestatic 164, 3) := by decide +kernel
theorem f_247_19 : decode (mB 247) 19 = .ok (.ifCond .ne 10, 3) := by decide +kernel
theorem f_247_22 : decode (mB 247) 22 = .ok (.aload_n 0, 1) := by decide +kernel
theorem f_247_23 : decode (mB 247) 23 = .ok (.ldc 77, 2) := by decide +kernel
theorem f_247_25 : decode (mB 247) 25 = .ok (.invokevirtual 78, 3) := by decide +kernel
theorem f_247_28 : decode (mB 247) 28 = .ok (.ireturn, 1) := by decide +kernel
theorem f_247_29 : decode (mB 247) 29 = .ok (.aload_n 0, 1) := by decide +kernel
theorem f_247_30 : decode (mB 247) 30 = .ok (.iload_n 1, 1) := by decide +kernel
theorem f_247_31 : decode (mB 247) 31 = .ok (.iload_n 2, 1) := by decide +kernel
theorem f_247_32 : decode (mB 247) 32 = .ok (.iload_n 3, 1) := by decide +kernel
theorem f_247_33 : decode (mB 247) 33 = .ok (.invokevirtual 252, 3) := by decide +kernel
theorem f_247_36 : decode (mB 247) 36 = .ok (.ifCond .eq 7, 3) := by decide +kernel
theorem f_247_39 : decode (mB 247) 39 = .ok (.iconst 1, 1) := by decide +kernel
theorem f_247_40 : decode (mB 247) 40 = .ok (.goto 4, 3) := by decide +kernel
theorem f_247_43 : decode (mB 247) 43 = .ok (.iconst 0, 1) := by decide +kernel
theorem f_247_44 : decode (mB 247) 44 = .ok (.ireturn, 1) := by decide +kernel
theorem f_248_0 : decode (mB 248) 0 = .ok (.aload_n 0, 1) := by decide +kernel
theorem f_248_1 : decode (mB 248) 1 = .ok (.iload_n 2, 1) := by decide +kernel
theorem f_248_2 : decode (mB 248) 2 = .ok (.iload_n 3, 1) := by decide +kernel
theorem f_248_3 : decode (mB 248) 3 = .ok (.invokevirtual 235, 3) := by decide +kernel
theorem f_248_6 : decode (mB 248) 6 = .ok (.istore 4, 2) := by decide +kernel
theorem f_248_8 : decode (mB 248) 8 = .ok (.iload 4, 2) := by decide +kernel
theorem f_248_10 : decode (mB 248) 10 = .ok (.ifCond .lt 24, 3) := by decide +kernel
theorem f_248_13 : decode (mB 248) 13 = .ok (.aload_n 0, 1) := by decide +kernel
theorem f_248_14 : decode (mB 248) 14 = .ok (.aload_n 0, 1) := by decide +kernel
theorem f_248_15 : decode (mB 248) 15 = .ok (.iload_n 1, 1) := by decide +kernel
theorem f_248_16 : decode (mB 248) 16 = .ok (.iconst 1, 1) := by decide +kernel
theorem f_248_17 : decode (mB 248) 17 = .ok (.invokevirtual 111, 3) := by decide +kernel
theorem f_248_20 : decode (mB 248) 20 = .ok (.invokevirtual 128, 3) := by decide +kernel
theorem f_248_23 : decode (mB 248) 23 = .ok (.iconst 1, 1) := by decide +kernel
theorem f_248_24 : decode (mB 248) 24 = .ok (.aload_n 0, 1) := by decide +kernel
theorem f_248_25 : decode (mB 248) 25 = .ok (.iload_n 1, 1) := by decide +kernel
theorem f_248_26 : decode (mB 248) 26 = .ok (.iconst 2, 1) := by decide +kernel
theorem f_248_27 : decode (mB 248) 27 = .ok (.invokevirtual 111, 3) := by decide +kernel
theorem f_248_30 : decode (mB 248) 30 = .ok (.ishl, 1) := by decide +kernel
theorem f_248_31 : decode (mB 248) 31 = .ok (.if_icmp .ne 5, 3) := by decide +kernel
theorem f_248_34 : decode (mB 248) 34 = .ok (.iconst 0, 1) := by decide +kernel
theorem f_248_35 : decode (mB 248) 35 = .ok (.ireturn, 1) := by decide +kernel
theorem f_248_36 : decode (mB 248) 36 = .ok (.iconst 0, 1) := by decide +kernel
theorem f_248_37 : decode (mB 248) 37 = .ok (.istore 5, 2) := by decide +kernel
theorem f_248_39 : decode (mB 248) 39 = .ok (.iload 5, 2) := by decide +kernel
theorem f_248_41 : decode (mB 248) 41 = .ok (.bipush 11, 2) := by decide +kernel
theorem f_248_43 : decode (mB 248) 43 = .ok (.if_icmp .ge 17, 3) := by decide +kernel
theorem f_248_46 : decode (mB 248) 46 = .ok (.aload_n 0, 1) := by decide +kernel
theorem f_248_47 : decode (mB 248) 47 = .ok (.getfield 46, 3) := by decide +kernel
theorem f_248_50 : decode (mB 248) 50 = .ok (.iload 5, 2) := by decide +kernel
theorem f_248_52 : decode (mB 248) 52 = .ok (.iconst 0, 1) := by decide +kernel
theorem f_248_53 : decode (mB 248) 53 = .ok (.iastore, 1) := by decide +kernel
theorem f_248_54 : decode (mB 248) 54 = .ok (.iinc 5 1, 3) := by decide +kernel
theorem f_248_57 : decode (mB 248) 57 = .ok (.goto (-18), 3) := by decide +kernel
theorem f_248_60 : decode (mB 248) 60 = .ok (.aload_n 0, 1) := by decide +kernel
theorem f_248_61 : decode (mB 248) 61 = .ok (.getfield 46, 3) := by decide +kernel
theorem f_248_64 : decode (mB 248) 64 = .ok (.iconst 2, 1) := by decide +kernel
theorem f_248_65 : decode (mB 248) 65 = .ok (.aload_n 0, 1) := by decide +kernel
theorem f_248_66 : decode (mB 248) 66 = .ok (.iload_n 2, 1) := by decide +kernel
theorem f_248_67 : decode (mB 248) 67 = .ok (.iload_n 3, 1) := by decide +kernel
theorem f_248_68 : decode (mB 248) 68 = .ok (.invokevirtual 167, 3) := by decide +kernel
theorem f_248_71 : decode (mB 248) 71 = .ok (.iastore, 1) := by decide +kernel
theorem f_248_72 : decode (mB 248) 72 = .ok (.aload_n 0, 1) := by decide +kernel
theorem f_248_73 : decode (mB 248) 73 = .ok (.getfield 46, 3) := by decide +kernel
theorem f_248_76 : decode (mB 248) 76 = .ok (.bipush 6, 2) := by decide +kernel
theorem f_248_78 : decode (mB 248) 78 = .ok (.aload_n 0, 1) := by decide +kernel
theorem f_248_79 : decode (mB 248) 79 = .ok (.iload_n 1, 1) := by decide +kernel
theorem f_248_80 : decode (mB 248) 80 = .ok (.iconst 0, 1) := by decide +kernel
theorem f_248_81 : decode (mB 248) 81 = .ok (.invokevirtual 111, 3) := by decide +kernel
theorem f_248_84 : decode (mB 248) 84 = .ok (.iastore, 1) := by decide +kernel
theorem f_248_85 : decode (mB 248) 85 = .ok (.aload_n 0, 1) := by decide +kernel
theorem f_248_86 : decode (mB 248) 86 = .ok (.getfield 46, 3) := by decide +kernel
theorem f_248_89 : decode (mB 248) 89 = .ok (.bipush 8, 2) := by decide +kernel
theorem f_248_91 : decode (mB 248) 91 = .ok (.aload_n 0, 1) := by decide +kernel
theorem f_248_92 : decode (mB 248) 92 = .ok (.aload_n 0, 1) := by decide +kernel
theorem f_248_93 : decode (mB 248) 93 = .ok (.iload_n 1, 1) := by decide +kernel
theorem f_248_94 : decode (mB 248) 94 = .ok (.iconst 2, 1) := by decide +kernel
theorem f_248_95 : decode (mB 248) 95 = .ok (.invokevirtual 111, 3) := by decide +kernel
theorem f_248_98 : decode (mB 248) 98 = .ok (.iconst 4, 1) := by decide +kernel
theorem f_248_99 : decode (mB 248) 99 = .ok (.invokevirtual 73, 3) := by decide +kernel
theorem f_248_102 : decode (mB 248) 102 = .ok (.iastore, 1) := by decide +kernel
theorem f_248_103 : decode (mB 248) 103 = .ok (.aload_n 0, 1) := by decide +kernel
theorem f_248_104 : decode (mB 248) 104 = .ok (.getfield 46, 3) := by decide +kernel
theorem f_248_107 : decode (mB 248) 107 = .ok (.bipush 9, 2) := by decide +kernel
theorem f_248_109 : decode (mB 248) 109 = .ok (.aload_n 0, 1) := by decide +kernel
theorem f_248_110 : decode (mB 248) 110 = .ok (.iload_n 1, 1) := by decide +kernel
theorem f_248_111 : decode (mB 248) 111 = .ok (.iconst 3, 1) := by decide +kernel
theorem f_248_112 : decode (mB 248) 112 = .ok (.invokevirtual 111, 3) := by decide +kernel
theorem f_248_115 : decode (mB 248) 115 = .ok (.iastore, 1) := by decide +kernel
theorem f_248_116 : decode (mB 248) 116 = .ok (.aload_n 0, 1) := by decide +kernel
theorem f_248_117 : decode (mB 248) 117 = .ok (.iload 4, 2) := by decide +kernel
theorem f_248_119 : decode (mB 248) 119 = .ok (.iconst 1, 1) := by decide +kernel
theorem f_248_120 : decode (mB 248) 120 = .ok (.invokevirtual 238, 3) := by decide +kernel
theorem f_248_123 : decode (mB 248) 123 = .ok (.ireturn, 1) := by decide +kernel
theorem f_249_0 : decode (mB 249) 0 = .ok (.aload_n 0, 1) := by decide +kernel
theorem f_249_1 : decode (mB 249) 1 = .ok (.iload_n 1, 1) := by decide +kernel
theorem f_249_2 : decode (mB 249) 2 = .ok (.iload_n 2, 1) := by decide +kernel
theorem f_249_3 : decode (mB 249) 3 = .ok (.iload_n 3, 1) := by decide +kernel
theorem f_249_4 : decode (mB 249) 4 = .ok (.invokevirtual 245, 3) := by decide +kernel
theorem f_249_7 : decode (mB 249) 7 = .ok (.ifCond .ne 10, 3) := by decide +kernel
theorem f_249_10 : decode (mB 249) 10 = .ok (.aload_n 0, 1) := by decide +kernel
theorem f_249_11 : decode (mB 249) 11 = .ok (.ldc 77, 2) := by decide +kernel
theorem f_249_13 : decode (mB 249) 13 = .ok (.invokevirtual 78, 3) := by decide +kernel
theorem f_249_16 : decode (mB 249) 16 = .ok (.ireturn, 1) := by decide +kernel
theorem f_249_17 : decode (mB 249) 17 = .ok (.iconst 0, 1) := by decide +kernel
theorem f_249_18 : decode (mB 249) 18 = .ok (.istore 4, 2) := by decide +kernel
theorem f_249_20 : decode (mB 249) 20 = .ok (.iconst 0, 1) := by decide +kernel
theorem f_249_21 : decode (mB 249) 21 = .ok (.istore 5, 2) := by decide +kernel
theorem f_249_23 : decode (mB 249) 23 = .ok (.iload 5, 2) := by decide +kernel
theorem f_249_25 : decode (mB 249) 25 = .ok (.bipush 7, 2) := by decide +kernel
theorem f_249_27 : decode (mB 249) 27 = .ok (.if_icmp .ge 35, 3) := by decide +kernel
theorem f_249_30 : decode (mB 249) 30 = .ok (.iload 4, 2) := by decide +kernel
theorem f_249_32 : decode (mB 249) 32 = .ok (.aload_n 0, 1) := by decide +kernel
theorem f_249_33 : decode (mB 249) 33 = .ok (.iload_n 1, 1) := by decide +kernel
theorem f_249_34 : decode (mB 249) 34 = .ok (.iload 5, 2) := by decide +kernel
theorem f_249_36 : decode (mB 249) 36 = .ok (.iload_n 2, 1) := by decide +kernel
theorem f_249_37 : decode (mB 249) 37 = .ok (.iload_n 3, 1) := by decide +kernel
theorem f_249_38 : decode (mB 249) 38 = .ok (.iconst 0, 1) := by decide +kernel
theorem f_249_39 : decode (mB 249) 39 = .ok (.invokevirtual 248, 3) := by decide +kernel
theorem f_249_42 : decode (mB 249) 42 = .ok (.ifCond .ne 10, 3) := by decide +kernel
theorem f_249_45 : decode (mB 249) 45 = .ok (.iconst 1, 1) := by decide +kernel
theorem f_249_46 : decode (mB 249) 46 = .ok (.iload 5, 2) := by decide +kernel
theorem f_249_48 : decode (mB 249) 48 = .ok (.ishl, 1) := by decide +kernel
theorem f_249_49 : decode (mB 249) 49 = .ok (.goto 4, 3) := by decide +kernel
theorem f_249_52 : decode (mB 249) 52 = .ok (.iconst 0, 1) := by decide +kernel
theorem f_249_53 : decode (mB 249) 53 = .ok (.ior, 1) := by decide +kernel
theorem f_249_54 : decode (mB 249) 54 = .ok (.istore 4, 2) := by decide +kernel
theorem f_249_56 : decode (mB 249) 56 = .ok (.iinc 5 1, 3) := by decide +kernel
theorem f_249_59 : decode (mB 249) 59 = .ok (.goto (-36), 3) := by decide +kernel
theorem f_249_62 : decode (mB 249) 62 = .ok (.iload 4, 2) := by decide +kernel
theorem f_249_64 : decode (mB 249) 64 = .ok (.ireturn, 1) := by decide +kernel
theorem f_250_0 : decode (mB 250) 0 = .ok (.aload_n 0, 1) := by decide +kernel
theorem f_250_1 : decode (mB 250) 1 = .ok (.iload_n 1, 1) := by decide +kernel
theorem f_250_2 : decode (mB 250) 2 = .ok (.invokevirtual 114, 3) := by decide +kernel
theorem f_250_5 : decode (mB 250) 5 = .ok (.ifCond .eq 31, 3) := by decide +kernel
theorem f_250_8 : decode (mB 250) 8 = .ok (.iload_n 2, 1) := by decide +kernel
theorem f_250_9 : decode (mB 250) 9 = .ok (.invokestatic 161, 3) := by decide +kernel
theorem f_250_12 : decode (mB 250) 12 = .ok (.ifCond .eq 24, 3) := by decide +kernel
theorem f_250_15 : decode (mB 250) 15 = .ok (.aload_n 0, 1) := by decide +kernel
theorem f_250_16 : decode (mB 250) 16 = .ok (.iload_n 1, 1) := by decide +kernel
theorem f_250_17 : decode (mB 250) 17 = .ok (.iconst 0, 1) := by decide +kernel
theorem f_250_18 : decode (mB 250) 18 = .ok (.invokevirtual 111, 3) := by decide +kernel
theorem f_250_21 : decode (mB 250) 21 = .ok (.aload_n 0, 1) := by decide +kernel
theorem f_250_22 : decode (mB 250) 22 = .ok (.iload_n 2, 1) := by decide +kernel
theorem f_250_23 : decode (mB 250) 23 = .ok (.aload_n 0, 1) := by decide +kernel
theorem f_250_24 : decode (mB 250) 24 = .ok (.getfield 7, 3) := by decide +kernel
theorem f_250_27 : decode (mB 250) 27 = .ok (.iconst 3, 1) := by decide +kernel
theorem f_250_28 : decode (mB 250) 28 = .ok (.iaload, 1) := by decide +kernel
theorem f_250_29 : decode (mB 250) 29 = .ok (.invokevirtual 167, 3) := by decide +kernel
theorem f_250_32 : decode (mB 250) 32 = .ok (.imul, 1) := by decide +kernel
theorem f_250_33 : decode (mB 250) 33 = .ok (.goto 9, 3) := by decide +kernel
theorem f_250_36 : decode (mB 250) 36 = .ok (.aload_n 0, 1) := by decide +kernel
theorem f_250_37 : decode (mB 250) 37 = .ok (.ldc 77, 2) := by decide +kernel
theorem f_250_39 : decode (mB 250) 39 = .ok (.invokevirtual 78, 3) := by decide +kernel
theorem f_250_42 : decode (mB 250) 42 = .ok (.ireturn, 1) := by decide +kernel
theorem f_251_0 : decode (mB 251) 0 = .ok (.iload_n 1, 1) := by decide +kernel
theorem f_251_1 : decode (mB 251) 1 = .ok (.iconst 0, 1) := by decide +kernel
theorem f_251_2 : decode (mB 251) 2 = .ok (.bipush 30, 2) := by decide +kernel
theorem f_251_4 : decode (mB 251) 4 = .ok (.invokestatic 69, 3) := by decide +kernel
theorem f_251_7 : decode (mB 251) 7 = .ok (.ifCond .ne 10, 3) := by decide +kernel
theorem f_251_10 : decode (mB 251) 10 = .ok (.aload_n 0, 1) := by decide +kernel
theorem f_251_11 : decode (mB 251) 11 = .ok (.ldc 77, 2) := by decide +kernel
theorem f_251_13 : decode (mB 251) 13 = .ok (.invokevirtual 78, 3) := by decide +kernel
theorem f_251_16 : decode (mB 251) 16 = .ok (.ireturn, 1) := by decide +kernel
theorem f_251_17 : decode (mB 251) 17 = .ok (.aload_n 0, 1) := by decide +kernel
theorem f_251_18 : decode (mB 251) 18 = .ok (.getfield 7, 3) := by decide +kernel
theorem f_251_21 : decode (mB 251) 21 = .ok (.iconst 3, 1) := by decide +kernel
theorem f_251_22 : decode (mB 251) 22 = .ok (.iaload, 1) := by decide +kernel
theorem f_251_23 : decode (mB 251) 23 = .ok (.sipush 400, 3) := by decide +kernel
theorem f_251_26 : decode (mB 251) 26 = .ok (.if_icmp .ne 12, 3) := by decide +kernel
theorem f_251_29 : decode (mB 251) 29 = .ok (.aload_n 0, 1) := by decide +kernel
theorem f_251_30 : decode (mB 251) 30 = .ok (.ldc 82, 2) := by decide +kernel
theorem f_251_32 : decode (mB 251) 32 = .ok (.invokevirtual 78, 3) := by decide +kernel
theorem f_251_35 : decode (mB 251) 35 = .ok (.goto 8, 3) := by decide +kernel
theorem f_251_38 : decode (mB 251) 38 = .ok (.aload_n 0, 1) := by decide +kernel
theorem f_251_39 : decode (mB 251) 39 = .ok (.iload_n 1, 1) := by decide +kernel
theorem f_251_40 : decode (mB 251) 40 = .ok (.invokevirtual 270, 3) := by decide +kernel
theorem f_251_43 : decode (mB 251) 43 = .ok (.ireturn, 1) := by decide +kernel
theorem f_252_0 : decode (mB 252) 0 = .ok (.aload_n 0, 1) := by decide +kernel
theorem f_252_1 : decode (mB 252) 1 = .ok (.iload_n 1, 1) := by decide +kernel
theorem f_252_2 : decode (mB 252) 2 = .ok (.invokevirtual 258, 3) := by decide +kernel
theorem f_252_5 : decode (mB 252) 5 = .ok (.aload_n 0, 1) := by decide +kernel
theorem f_252_6 : decode (mB 252) 6 = .ok (.invokevirtual 261, 3) := by decide +kernel
theorem f_252_9 : decode (mB 252) 9 = .ok (.istore_n 2, 1) := by decide +kernel
theorem f_252_10 : decode (mB 252) 10 = .ok (.aload_n 0, 1) := by decide +kernel
theorem f_252_11 : decode (mB 252) 11 = .ok (.invokevirtual 264, 3) := by decide +kernel
theorem f_252_14 : decode (mB 252) 14 = .ok (.aload_n 0, 1) := by decide +kernel
theorem f_252_15 : decode (mB 252) 15 = .ok (.getfield 7, 3) := by decide +kernel
theorem f_252_18 : decode (mB 252) 18 = .ok (.iconst 3, 1) := by decide +kernel
theorem f_252_19 : decode (mB 252) 19 = .ok (.dup2, 1) := by decide +kernel
theorem f_252_20 : decode (mB 252) 20 = .ok (.iaload, 1) := by decide +kernel
theorem f_252_21 : decode (mB 252) 21 = .ok (.iconst 1, 1) := by decide +kernel
theorem f_252_22 : decode (mB 252) 22 = .ok (.iadd, 1) := by decide +kernel
theorem f_252_23 : decode (mB 252) 23 = .ok (.iastore, 1) := by decide +kernel
theorem f_252_24 : decode (mB 252) 24 = .ok (.aload_n 0, 1) := by decide +kernel
theorem f_252_25 : decode (mB 252) 25 = .ok (.iconst 0, 1) := by decide +kernel
theorem f_252_26 : decode (mB 252) 26 = .ok (.aload_n 0, 1) := by decide +kernel
theorem f_252_27 : decode (mB 252) 27 = .ok (.getfield 7, 3) := by decide +kernel
theorem f_252_30 : decode (mB 252) 30 = .ok (.iconst 3, 1) := by decide +kernel
theorem f_252_31 : decode (mB 252) 31 = .ok (.iaload, 1) := by decide +kernel
theorem f_252_32 : decode (mB 252) 32 = .ok (.invokevirtual 167, 3) := by decide +kernel
theorem f_252_35 : decode (mB 252) 35 = .ok (.bipush 50, 2) := by decide +kernel
theorem f_252_37 : decode (mB 252) 37 = .ok (.if_icmp .ne 7, 3) := by decide +kernel
theorem f_252_40 : decode (mB 252) 40 = .ok (.aload_n 0, 1) := by decide +kernel
theorem f_252_41 : decode (mB 252) 41 = .ok (.invokevirtual 267, 3) := by decide +kernel
theorem f_252_44 : decode (mB 252) 44 = .ok (.iload_n 2, 1) := by decide +kernel
theorem f_252_45 : decode (mB 252) 45 = .ok (.ireturn, 1) := by decide +kernel
theorem f_253_0 : decode (mB 253) 0 = .ok (.iconst 0, 1) := by decide +kernel
theorem f_253_1 : decode (mB 253) 1 = .ok (.istore_n 2, 1) := by decide +kernel
theorem f_253_2 : decode (mB 253) 2 = .ok (.iload_n 2, 1) := by decide +kernel
theorem f_253_3 : decode (mB 253) 3 = .ok (.aload_n 0, 1) := by decide +kernel
theorem f_253_4 : decode (mB 253) 4 = .ok (.getfield 7, 3) := by decide +kernel
theorem f_253_7 : decode (mB 253) 7 = .ok (.iconst 1, 1) := by decide +kernel
theorem f_253_8 : decode (mB 253) 8 = .ok (.iaload, 1) := by decide +kernel
theorem f_253_9 : decode (mB 253) 9 = .ok (.if_icmp .ge 30, 3) := by decide +kernel
theorem f_253_12 : decode (mB 253) 12 = .ok (.aload_n 0, 1) := by decide +kernel
theorem f_253_13 : decode (mB 253) 13 = .ok (.aload_n 0, 1) := by decide +kernel
theorem f_253_14 : decode (mB 253) 14 = .ok (.iload_n 2, 1) := by decide +kernel
theorem f_253_15 : decode (mB 253) 15 = .ok (.iconst 2, 1) := by decide +kernel
theorem f_253_16 : decode (mB 253) 16 = .ok (.invokevirtual 111, 3) := by decide +kernel
theorem f_253_19 : decode (mB 253) 19 = .ok (.aload_n 0, 1) := by decide +kernel
theorem f_253_20 : decode (mB 253) 20 = .ok (.iload_n 2, 1) := by decide +kernel
theorem f_253_21 : decode (mB 253) 21 = .ok (.iconst 0, 1) := by decide +kernel
theorem f_253_22 : decode (mB 253) 22 = .ok (.invokevirtual 111, 3) := by decide +kernel
theorem f_253_25 : decode (mB 253) 25 = .ok (.iload_n 1, 1) := by decide +kernel
theorem f_253_26 : decode (mB 253) 26 = .ok (.imul, 1) := by decide +kernel
theorem f_253_27 : decode (mB 253) 27 = .ok (.bipush 10, 2) := by decide +kernel
theorem f_253_29 : decode (mB 253) 29 = .ok (.idiv, 1) := by decide +kernel
theorem f_253_30 : decode (mB 253) 30 = .ok (.invokevirtual 151, 3) := by decide +kernel
theorem f_253_33 : decode (mB 253) 33 = .ok (.iinc 2 1, 3) := by decide +kernel
theorem f_253_36 : decode (mB 253) 36 = .ok (.goto (-34), 3) := by decide +kernel
theorem f_253_39 : decode (mB 253) 39 = .ok (.return_, 1) := by decide +kernel
theorem f_254_0 : decode (mB 254) 0 = .ok (.iconst 0, 1) := by decide +kernel
theorem f_254_1 : decode (mB 254) 1 = .ok (.istore_n 1, 1) := by decide +kernel
theorem f_254_2 : decode (mB 254) 2 = .ok (.iconst 0, 1) := by decide +kernel
theorem f_254_3 : decode (mB 254) 3 = .ok (.istore_n 2, 1) := by decide +kernel
theorem f_254_4 : decode (mB 254) 4 = .ok (.iload_n 2, 1) := by decide +kernel
theorem f_254_5 : decode (mB 254) 5 = .ok (.aload_n 0, 1) := by decide +kernel
theorem f_254_6 : decode (mB 254) 6 = .ok (.getfield 7, 3) := by decide +kernel
theorem f_254_9 : decode (mB 254) 9 = .ok (.iconst 0, 1) := by decide +kernel
theorem f_254_10 : decode (mB 254) 10 = .ok (.iaload, 1) := by decide +kernel
theorem f_254_11 : decode (mB 254) 11 = .ok (.if_icmp .ge 208, 3) := by decide +kernel
theorem f_254_14 : decode (mB 254) 14 = .ok (.aload_n 0, 1) := by decide +kernel
theorem f_254_15 : decode (mB 254) 15 = .ok (.iload_n 2, 1) := by decide +kernel
theorem f_254_16 : decode (mB 254) 16 = .ok (.invokevirtual 91, 3) := by decide +kernel
theorem f_254_19 : decode (mB 254) 19 = .ok (.ifCond .ne 6, 3) := by decide +kernel
theorem f_254_22 : decode (mB 254) 22 = .ok (.goto 191, 3) := by decide +kernel
theorem f_254_25 : decode (mB 254) 25 = .ok (.aload_n 0, 1) := by decide +kernel
theorem f_254_26 : decode (mB 254) 26 = .ok (.iload_n 2, 1) := by decide +kernel
theorem f_254_27 : decode (mB 254) 27 = .ok (.bipush 6, 2) := by decide +kernel
theorem f_254_29 : decode (mB 254) 29 = .ok (.invokevirtual 73, 3) := by decide +kernel
theorem f_254_32 : decode (mB 254) 32 = .ok (.bipush 10, 2) := by decide +kernel
theorem f_254_34 : decode (mB 254) 34 = .ok (.if_icmp .ge 13, 3) := by decide +kernel
theorem f_254_37 : decode (mB 254) 37 = .ok (.aload_n 0, 1) := by decide +kernel
theorem f_254_38 : decode (mB 254) 38 = .ok (.iload_n 2, 1) := by decide +kernel
theorem f_254_39 : decode (mB 254) 39 = .ok (.bipush 6, 2) := by decide +kernel
theorem f_254_41 : decode (mB 254) 41 = .ok (.invokevirtual 73, 3) := by decide +kernel
theorem f_254_44 : decode (mB 254) 44 = .ok (.goto 5, 3) := by decide +kernel
theorem f_254_47 : decode (mB 254) 47 = .ok (.bipush 10, 2) := by decide +kernel
theorem f_254_49 : decode (mB 254) 49 = .ok (.istore_n 3, 1) := by decide +kernel
theorem f_254_50 : decode (mB 254) 50 = .ok (.bipush 10, 2) := by decide +kernel
theorem f_254_52 : decode (mB 254) 52 = .ok (.iload_n 3, 1) := by decide +kernel
theorem f_254_53 : decode (mB 254) 53 = .ok (.isub, 1) := by decide +kernel
theorem f_254_54 : decode (mB 254) 54 = .ok (.istore 4, 2) := by decide +kernel
theorem f_254_56 : decode (mB 254) 56 = .ok (.iload 4, 2) := by decide +kernel
theorem f_254_58 : decode (mB 254) 58 = .ok (.ifCond .le 24, 3) := by decide +kernel
theorem f_254_61 : decode (mB 254) 61 = .ok (.aload_n 0, 1) := by decide +kernel
theorem f_254_62 : decode (mB 254) 62 = .ok (.getfield 7, 3) := by decide +kernel
theorem f_254_65 : decode (mB 254) 65 = .ok (.iconst 2, 1) := by decide +kernel
theorem f_254_66 : decode (mB 254) 66 = .ok (.iaload, 1) := by decide +kernel
theorem f_254_67 : decode (mB 254) 67 = .ok (.bipush 20, 2) := by decide +kernel
theorem f_254_69 : decode (mB 254) 69 = .ok (.if_icmp .ge 13, 3) := by decide +kernel
theorem f_254_72 : decode (mB 254) 72 = .ok (.aload_n 0, 1) := by decide +kernel
theorem f_254_73 : decode (mB 254) 73 = .ok (.iload_n 2, 1) := by decide +kernel
theorem f_254_74 : decode (mB 254) 74 = .ok (.iload 4, 2) := by decide +kernel
theorem f_254_76 : decode (mB 254) 76 = .ok (.invokevirtual 255, 3) := by decide +kernel
theorem f_254_79 : decode (mB 254) 79 = .ok (.goto 4, 3) := by decide +kernel
theorem f_254_82 : decode (mB 254) 82 = .ok (.iconst (-1), 1) := by decide +kernel
theorem f_254_83 : decode (mB 254) 83 = .ok (.istore 5, 2) := by decide +kernel
theorem f_254_85 : decode (mB 254) 85 = .ok (.aload_n 0, 1) := by decide +kernel
theorem f_254_86 : decode (mB 254) 86 = .ok (.iload_n 2, 1) := by decide +kernel
theorem f_254_87 : decode (mB 254) 87 = .ok (.bipush 6, 2) := by decide +kernel
theorem f_254_89 : decode (mB 254) 89 = .ok (.aload_n 0, 1) := by decide +kernel
theorem f_254_90 : decode (mB 254) 90 = .ok (.iload_n 2, 1) := by decide +kernel
theorem f_254_91 : decode (mB 254) 91 = .ok (.bipush 6, 2) := by decide +kernel
theorem f_254_93 : decode (mB 254) 93 = .ok (.invokevirtual 73, 3) := by decide +kernel
theorem f_254_96 : decode (mB 254) 96 = .ok (.iload_n 3, 1) := by decide +kernel
theorem f_254_97 : decode (mB 254) 97 = .ok (.isub, 1) := by decide +kernel
theorem f_254_98 : decode (mB 254) 98 = .ok (.invokevirtual 83, 3) := by decide +kernel
theorem f_254_101 : decode (mB 254) 101 = .ok (.aload_n 0, 1) := by decide +kernel
theorem f_254_102 : decode (mB 254) 102 = .ok (.getfield 7, 3) := by decide +kernel
theorem f_254_105 : decode (mB 254) 105 = .ok (.iconst 5, 1) := by decide +kernel
theorem f_254_106 : decode (mB 254) 106 = .ok (.dup2, 1) := by decide +kernel
theorem f_254_107 : decode (mB 254) 107 = .ok (.iaload, 1) := by decide +kernel
theorem f_254_108 : decode (mB 254) 108 = .ok (.iload_n 3, 1) := by decide +kernel
theorem f_254_109 : decode (mB 254) 109 = .ok (.iadd, 1) := by decide +kernel
theorem f_254_110 : decode (mB 254) 110 = .ok (.iastore, 1) := by decide +kernel
theorem f_254_111 : decode (mB 254) 111 = .ok (.iload 5, 2) := by decide +kernel
theorem f_254_113 : decode (mB 254) 113 = .ok (.ifCond .lt 78, 3) := by decide +kernel
theorem f_254_116 : decode (mB 254) 116 = .ok (.aload_n 0, 1) := by decide +kernel
theorem f_254_117 : decode (mB 254) 117 = .ok (.iload 5, 2) := by decide +kernel
theorem f_254_119 : decode (mB 254) 119 = .ok (.bipush 6, 2) := by decide +kernel
theorem f_254_121 : decode (mB 254) 121 = .ok (.aload_n 0, 1) := by decide +kernel
theorem f_254_122 : decode (mB 254) 122 = .ok (.iload 5, 2) := by decide +kernel
theorem f_254_124 : decode (mB 254) 124 = .ok (.bipush 6, 2) := by decide +kernel
theorem f_254_126 : decode (mB 254) 126 = .ok (.invokevirtual 73, 3) := by decide +kernel
theorem f_254_129 : decode (mB 254) 129 = .ok (.iload 4, 2) := by decide +kernel
theorem f_254_131 : decode (mB 254) 131 = .ok (.isub, 1) := by decide +kernel
theorem f_254_132 : decode (mB 254) 132 = .ok (.invokevirtual 83, 3) := by decide +kernel
theorem f_254_135 : decode (mB 254) 135 = .ok (.aload_n 0, 1) := by decide +kernel
theorem f_254_136 : decode (mB 254) 136 = .ok (.getfield 7, 3) := by decide +kernel
theorem f_254_139 : decode (mB 254) 139 = .ok (.iconst 5, 1) := by decide +kernel
theorem f_254_140 : decode (mB 254) 140 = .ok (.dup2, 1) := by decide +kernel
theorem f_254_141 : decode (mB 254) 141 = .ok (.iaload, 1) := by decide +kernel
theorem f_254_142 : decode (mB 254) 142 = .ok (.iload 4, 2) := by decide +kernel
theorem f_254_144 : decode (mB 254) 144 = .ok (.iadd, 1) := by decide +kernel
theorem f_254_145 : decode (mB 254) 145 = .ok (.iastore, 1) := by decide +kernel
theorem f_254_146 : decode (mB 254) 146 = .ok (.aload_n 0, 1) := by decide +kernel
theorem f_254_147 : decode (mB 254) 147 = .ok (.iconst 1, 1) := by decide +kernel
theorem f_254_148 : decode (mB 254) 148 = .ok (.iload_n 2, 1) := by decide +kernel
theorem f_254_149 : decode (mB 254) 149 = .ok (.iload 5, 2) := by decide +kernel
theorem f_254_151 : decode (mB 254) 151 = .ok (.iload 4, 2) := by decide +kernel
theorem f_254_153 : decode (mB 254) 153 = .ok (.aload_n 0, 1) := by decide +kernel
theorem f_254_154 : decode (mB 254) 154 = .ok (.getfield 7, 3) := by decide +kernel
theorem f_254_157 : decode (mB 254) 157 = .ok (.iconst 3, 1) := by decide +kernel
theorem f_254_158 : decode (mB 254) 158 = .ok (.iaload, 1) := by decide +kernel
theorem f_254_159 : decode (mB 254) 159 = .ok (.iconst 5, 1) := by decide +kernel
theorem f_254_160 : decode (mB 254) 160 = .ok (.iadd, 1) := by decide +kernel
theorem f_254_161 : decode (mB 254) 161 = .ok (.sipush 400, 3) := by decide +kernel
theorem f_254_164 : decode (mB 254) 164 = .ok (.if_icmp .ge 14, 3) := by decide +kernel
theorem f_254_167 : decode (mB 254) 167 = .ok (.aload_n 0, 1) := by decide +kernel
theorem f_254_168 : decode (mB 254) 168 = .ok (.getfield 7, 3) := by decide +kernel
theorem f_254_171 : decode (mB 254) 171 = .ok (.iconst 3, 1) := by decide +kernel
theorem f_254_172 : decode (mB 254) 172 = .ok (.iaload, 1) := by decide +kernel
theorem f_254_173 : decode (mB 254) 173 = .ok (.iconst 5, 1) := by decide +kernel
theorem f_254_174 : decode (mB 254) 174 = .ok (.iadd, 1) := by decide +kernel
theorem f_254_175 : decode (mB 254) 175 = .ok (.goto 6, 3) := by decide +kernel
theorem f_254_178 : decode (mB 254) 178 = .ok (.sipush 400, 3) := by decide +kernel
theorem f_254_181 : decode (mB 254) 181 = .ok (.iconst (-1), 1) := by decide +kernel
theorem f_254_182 : decode (mB 254) 182 = .ok (.iconst 0, 1) := by decide +kernel
theorem f_254_183 : decode (mB 254) 183 = .ok (.invokevirtual 140, 3) := by decide +kernel
theorem f_254_186 : decode (mB 254) 186 = .ok (.istore 6, 2) := by decide +kernel
theorem f_254_188 : decode (mB 254) 188 = .ok (.goto 25, 3) := by decide +kernel
theorem f_254_191 : decode (mB 254) 191 = .ok (.aload_n 0, 1) := by decide +kernel
theorem f_254_192 : decode (mB 254) 192 = .ok (.iload_n 2, 1) := by decide +kernel
theorem f_254_193 : decode (mB 254) 193 = .ok (.bipush 9, 2) := by decide +kernel
theorem f_254_195 : decode (mB 254) 195 = .ok (.aload_n 0, 1) := by decide +kernel
theorem f_254_196 : decode (mB 254) 196 = .ok (.iload_n 2, 1) := by decide +kernel
theorem f_254_197 : decode (mB 254) 197 = .ok (.bipush 9, 2) := by decide +kernel
theorem f_254_199 : decode (mB 254) 199 = .ok (.invokevirtual 73, 3) := by decide +kernel
theorem f_254_202 : decode (mB 254) 202 = .ok (.iload 4, 2) := by decide +kernel
theorem f_254_204 : decode (mB 254) 204 = .ok (.iadd, 1) := by decide +kernel
theorem f_254_205 : decode (mB 254) 205 = .ok (.invokevirtual 83, 3) := by decide +kernel
theorem f_254_208 : decode (mB 254) 208 = .ok (.iload_n 1, 1) := by decide +kernel
theorem f_254_209 : decode (mB 254) 209 = .ok (.iload 4, 2) := by decide +kernel
theorem f_254_211 : decode (mB 254) 211 = .ok (.iadd, 1) := by decide +kernel
theorem f_254_212 : decode (mB 254) 212 = .ok (.istore_n 1, 1) := by decide +kernel
theorem f_254_213 : decode (mB 254) 213 = .ok (.iinc 2 1, 3) := by decide +kernel
theorem f_254_216 : decode (mB 254) 216 = .ok (.goto (-212), 3) := by decide +kernel
theorem f_254_219 : decode (mB 254) 219 = .ok (.iload_n 1, 1) := by decide +kernel
theorem f_254_220 : decode (mB 254) 220 = .ok (.ireturn, 1) := by decide +kernel
theorem f_255_0 : decode (mB 255) 0 = .ok (.iconst 0, 1) := by decide +kernel
theorem f_255_1 : decode (mB 255) 1 = .ok (.istore_n 3, 1) := by decide +kernel
theorem f_255_2 : decode (mB 255) 2 = .ok (.iload_n 3, 1) := by decide +kernel
theorem f_255_3 : decode (mB 255) 3 = .ok (.aload_n 0, 1) := by decide +kernel
theorem f_255_4 : decode (mB 255) 4 = .ok (.getfield 7, 3) := by decide +kernel
theorem f_255_7 : decode (mB 255) 7 = .ok (.iconst 0, 1) := by decide +kernel
theorem f_255_8 : decode (mB 255) 8 = .ok (.iaload, 1) := by decide +kernel
theorem f_255_9 : decode (mB 255) 9 = .ok (.if_icmp .ge 69, 3) := by decide +kernel
theorem f_255_12 : decode (mB 255) 12 = .ok (.iload_n 3, 1) := by decide +kernel
theorem f_255_13 : decode (mB 255) 13 = .ok (.iload_n 1, 1) := by decide +kernel
theorem f_255_14 : decode (mB 255) 14 = .ok (.if_icmp .eq 58, 3) := by decide +kernel
theorem f_255_17 : decode (mB 255) 17 = .ok (.aload_n 0, 1) := by decide +kernel
theorem f_255_18 : decode (mB 255) 18 = .ok (.iload_n 3, 1) := by decide +kernel
theorem f_255_19 : decode (mB 255) 19 = .ok (.invokevirtual 91, 3) := by decide +kernel
theorem f_255_22 : decode (mB 255) 22 = .ok (.ifCond .eq 50, 3) := by decide +kernel
theorem f_255_25 : decode (mB 255) 25 = .ok (.aload_n 0, 1) := by decide +kernel
theorem f_255_26 : decode (mB 255) 26 = .ok (.iload_n 3, 1) := by decide +kernel
theorem f_255_27 : decode (mB 255) 27 = .ok (.bipush 6, 2) := by decide +kernel
theorem f_255_29 : decode (mB 255) 29 = .ok (.invokevirtual 73, 3) := by decide +kernel
theorem f_255_32 : decode (mB 255) 32 = .ok (.iload_n 2, 1) := by decide +kernel
theorem f_255_33 : decode (mB 255) 33 = .ok (.isub, 1) := by decide +kernel
theorem f_255_34 : decode (mB 255) 34 = .ok (.bipush 20, 2) := by decide +kernel
theorem f_255_36 : decode (mB 255) 36 = .ok (.if_icmp .lt 36, 3) := by decide +kernel
theorem f_255_39 : decode (mB 255) 39 = .ok (.aload_n 0, 1) := by decide +kernel
theorem f_255_40 : decode (mB 255) 40 = .ok (.iload_n 1, 1) := by decide +kernel
theorem f_255_41 : decode (mB 255) 41 = .ok (.iconst 4, 1) := by decide +kernel
theorem f_255_42 : decode (mB 255) 42 = .ok (.invokevirtual 73, 3) := by decide +kernel
theorem f_255_45 : decode (mB 255) 45 = .ok (.iconst 1, 1) := by decide +kernel
theorem f_255_46 : decode (mB 255) 46 = .ok (.if_icmp .eq 24, 3) := by decide +kernel
theorem f_255_49 : decode (mB 255) 49 = .ok (.aload_n 0, 1) := by decide +kernel
theorem f_255_50 : decode (mB 255) 50 = .ok (.iconst 1, 1) := by decide +kernel
theorem f_255_51 : decode (mB 255) 51 = .ok (.aload_n 0, 1) := by decide +kernel
theorem f_255_52 : decode (mB 255) 52 = .ok (.getfield 7, 3) := by decide +kernel
theorem f_255_55 : decode (mB 255) 55 = .ok (.iconst 3, 1) := by decide +kernel
theorem f_255_56 : decode (mB 255) 56 = .ok (.iaload, 1) := by decide +kernel
theorem f_255_57 : decode (mB 255) 57 = .ok (.invokevirtual 167, 3) := by decide +kernel
theorem f_255_60 : decode (mB 255) 60 = .ok (.aload_n 0, 1) := by decide +kernel
theorem f_255_61 : decode (mB 255) 61 = .ok (.iload_n 3, 1) := by decide +kernel
theorem f_255_62 : decode (mB 255) 62 = .ok (.bipush 7, 2) := by decide +kernel
theorem f_255_64 : decode (mB 255) 64 = .ok (.invokevirtual 73, 3) := by decide +kernel
theorem f_255_67 : decode (mB 255) 67 = .ok (.if_icmp .le 5, 3) := by decide +kernel
theorem f_255_70 : decode (mB 255) 70 = .ok (.iload_n 3, 1) := by decide +kernel
theorem f_255_71 : decode (mB 255) 71 = .ok (.ireturn, 1) := by decide +kernel
theorem f_255_72 : decode (mB 255) 72 = .ok (.iinc 3 1, 3) := by decide +kernel
theorem f_255_75 : decode (mB 255) 75 = .ok (.goto (-73), 3) := by decide +kernel
theorem f_255_78 : decode (mB 255) 78 = .ok (.iconst (-1), 1) := by decide +kernel
theorem f_255_79 : decode (mB 255) 79 = .ok (.ireturn, 1) := by decide +kernel
theorem f_256_0 : decode (mB 256) 0 = .ok (.iconst 0, 1) := by decide +kernel
theorem f_256_1 : decode (mB 256) 1 = .ok (.istore_n 1, 1) := by decide +kernel
theorem f_256_2 : decode (mB 256) 2 = .ok (.iload_n 1, 1) := by decide +kernel
theorem f_256_3 : decode (mB 256) 3 = .ok (.aload_n 0, 1) := by decide +kernel
theorem f_256_4 : decode (mB 256) 4 = .ok (.getfield 7, 3) := by decide +kernel
theorem f_256_7 : decode (mB 256) 7 = .ok (.iconst 2, 1) := by decide +kernel
theorem f_256_8 : decode (mB 256) 8 = .ok (.iaload, 1) := by decide +kernel
theorem f_256_9 : decode (mB 256) 9 = .ok (.if_icmp .ge 174, 3) := by decide +kernel
theorem f_256_12 : decode (mB 256) 12 = .ok (.aload_n 0, 1) := by decide +kernel
theorem f_256_13 : decode (mB 256) 13 = .ok (.iload_n 1, 1) := by decide +kernel
theorem f_256_14 : decode (mB 256) 14 = .ok (.invokevirtual 95, 3) := by decide +kernel
theorem f_256_17 : decode (mB 256) 17 = .ok (.ifCond .eq 160, 3) := by decide +kernel
theorem f_256_20 : decode (mB 256) 20 = .ok (.aload_n 0, 1) := by decide +kernel
theorem f_256_21 : decode (mB 256) 21 = .ok (.iload_n 1, 1) := by decide +kernel
theorem f_256_22 : decode (mB 256) 22 = .ok (.bipush 6, 2) := by decide +kernel
theorem f_256_24 : decode (mB 256) 24 = .ok (.invokevirtual 98, 3) := by decide +kernel
theorem f_256_27 : decode (mB 256) 27 = .ok (.aload_n 0, 1) := by decide +kernel
theorem f_256_28 : decode (mB 256) 28 = .ok (.getfield 7, 3) := by decide +kernel
theorem f_256_31 : decode (mB 256) 31 = .ok (.iconst 3, 1) := by decide +kernel
theorem f_256_32 : decode (mB 256) 32 = .ok (.iaload, 1) := by decide +kernel
theorem f_256_33 : decode (mB 256) 33 = .ok (.if_icmp .le 6, 3) := by decide +kernel
theorem f_256_36 : decode (mB 256) 36 = .ok (.goto 141, 3) := by decide +kernel
theorem f_256_39 : decode (mB 256) 39 = .ok (.aload_n 0, 1) := by decide +kernel
theorem f_256_40 : decode (mB 256) 40 = .ok (.aload_n 0, 1) := by decide +kernel
theorem f_256_41 : decode (mB 256) 41 = .ok (.iload_n 1, 1) := by decide +kernel
theorem f_256_42 : decode (mB 256) 42 = .ok (.iconst 1, 1) := by decide +kernel
theorem f_256_43 : decode (mB 256) 43 = .ok (.invokevirtual 98, 3) := by decide +kernel
theorem f_256_46 : decode (mB 256) 46 = .ok (.bipush 6, 2) := by decide +kernel
theorem f_256_48 : decode (mB 256) 48 = .ok (.invokevirtual 73, 3) := by decide +kernel
theorem f_256_51 : decode (mB 256) 51 = .ok (.aload_n 0, 1) := by decide +kernel
theorem f_256_52 : decode (mB 256) 52 = .ok (.iload_n 1, 1) := by decide +kernel
theorem f_256_53 : decode (mB 256) 53 = .ok (.invokevirtual 101, 3) := by decide +kernel
theorem f_256_56 : decode (mB 256) 56 = .ok (.if_icmp .ge 18, 3) := by decide +kernel
theorem f_256_59 : decode (mB 256) 59 = .ok (.aload_n 0, 1) := by decide +kernel
theorem f_256_60 : decode (mB 256) 60 = .ok (.aload_n 0, 1) := by decide +kernel
theorem f_256_61 : decode (mB 256) 61 = .ok (.iload_n 1, 1) := by decide +kernel
theorem f_256_62 : decode (mB 256) 62 = .ok (.iconst 1, 1) := by decide +kernel
theorem f_256_63 : decode (mB 256) 63 = .ok (.invokevirtual 98, 3) := by decide +kernel
theorem f_256_66 : decode (mB 256) 66 = .ok (.bipush 6, 2) := by decide +kernel
theorem f_256_68 : decode (mB 256) 68 = .ok (.invokevirtual 73, 3) := by decide +kernel
theorem f_256_71 : decode (mB 256) 71 = .ok (.goto 8, 3) := by decide +kernel
theorem f_256_74 : decode (mB 256) 74 = .ok (.aload_n 0, 1) := by decide +kernel
theorem f_256_75 : decode (mB 256) 75 = .ok (.iload_n 1, 1) := by decide +kernel
theorem f_256_76 : decode (mB 256) 76 = .ok (.invokevirtual 101, 3) := by decide +kernel
theorem f_256_79 : decode (mB 256) 79 = .ok (.istore_n 2, 1) := by decide +kernel
theorem f_256_80 : decode (mB 256) 80 = .ok (.aload_n 0, 1) := by decide +kernel
theorem f_256_81 : decode (mB 256) 81 = .ok (.iload_n 1, 1) := by decide +kernel
theorem f_256_82 : decode (mB 256) 82 = .ok (.aload_n 0, 1) := by decide +kernel
theorem f_256_83 : decode (mB 256) 83 = .ok (.aload_n 0, 1) := by decide +kernel
theorem f_256_84 : decode (mB 256) 84 = .ok (.iload_n 1, 1) := by decide +kernel
theorem f_256_85 : decode (mB 256) 85 = .ok (.iconst 1, 1) := by decide +kernel
theorem f_256_86 : decode (mB 256) 86 = .ok (.invokevirtual 98, 3) := by decide +kernel
theorem f_256_89 : decode (mB 256) 89 = .ok (.invokevirtual 91, 3) := by decide +kernel
theorem f_256_92 : decode (mB 256) 92 = .ok (.ifCond .eq 7, 3) := by decide +kernel
theorem f_256_95 : decode (mB 256) 95 = .ok (.iload_n 2, 1) := by decide +kernel
theorem f_256_96 : decode (mB 256) 96 = .ok (.goto 4, 3) := by decide +kernel
theorem f_256_99 : decode (mB 256) 99 = .ok (.iconst 0, 1) := by decide +kernel
theorem f_256_100 : decode (mB 256) 100 = .ok (.invokevirtual 158, 3) := by decide +kernel
theorem f_256_103 : decode (mB 256) 103 = .ok (.aload_n 0, 1) := by decide +kernel
theorem f_256_104 : decode (mB 256) 104 = .ok (.iload_n 1, 1) := by decide +kernel
theorem f_256_105 : decode (mB 256) 105 = .ok (.invokevirtual 95, 3) := by decide +kernel
theorem f_256_108 : decode (mB 256) 108 = .ok (.ifCond .eq 69, 3) := by decide +kernel
theorem f_256_111 : decode (mB 256) 111 = .ok (.aload_n 0, 1) := by decide +kernel
theorem f_256_112 : decode (mB 256) 112 = .ok (.iload_n 1, 1) := by decide +kernel
theorem f_256_113 : decode (mB 256) 113 = .ok (.iconst 0, 1) := by decide +kernel
theorem f_256_114 : decode (mB 256) 114 = .ok (.invokevirtual 98, 3) := by decide +kernel
theorem f_256_117 : decode (mB 256) 117 = .ok (.iconst 2, 1) := by decide +kernel
theorem f_256_118 : decode (mB 256) 118 = .ok (.if_icmp .ne 59, 3) := by decide +kernel
theorem f_256_121 : decode (mB 256) 121 = .ok (.aload_n 0, 1) := by decide +kernel
theorem f_256_122 : decode (mB 256) 122 = .ok (.aload_n 0, 1) := by decide +kernel
theorem f_256_123 : decode (mB 256) 123 = .ok (.iload_n 1, 1) := by decide +kernel
theorem f_256_124 : decode (mB 256) 124 = .ok (.bipush 7, 2) := by decide +kernel
theorem f_256_126 : decode (mB 256) 126 = .ok (.invokevirtual 98, 3) := by decide +kernel
theorem f_256_129 : decode (mB 256) 129 = .ok (.iconst 2, 1) := by decide +kernel
theorem f_256_130 : decode (mB 256) 130 = .ok (.invokevirtual 111, 3) := by decide +kernel
theorem f_256_133 : decode (mB 256) 133 = .ok (.aload_n 0, 1) := by decide +kernel
theorem f_256_134 : decode (mB 256) 134 = .ok (.iload_n 1, 1) := by decide +kernel
theorem f_256_135 : decode (mB 256) 135 = .ok (.iconst 1, 1) := by decide +kernel
theorem f_256_136 : decode (mB 256) 136 = .ok (.invokevirtual 98, 3) := by decide +kernel
theorem f_256_139 : decode (mB 256) 139 = .ok (.if_icmp .eq 6, 3) := by decide +kernel
theorem f_256_142 : decode (mB 256) 142 = .ok (.goto 35, 3) := by decide +kernel
theorem f_256_145 : decode (mB 256) 145 = .ok (.aload_n 0, 1) := by decide +kernel
theorem f_256_146 : decode (mB 256) 146 = .ok (.getfield 7, 3) := by decide +kernel
theorem f_256_149 : decode (mB 256) 149 = .ok (.sipush 150, 3) := by decide +kernel
theorem f_256_152 : decode (mB 256) 152 = .ok (.iconst 4, 1) := by decide +kernel
theorem f_256_153 : decode (mB 256) 153 = .ok (.aload_n 0, 1) := by decide +kernel
theorem f_256_154 : decode (mB 256) 154 = .ok (.iload_n 1, 1) := by decide +kernel
theorem f_256_155 : decode (mB 256) 155 = .ok (.bipush 7, 2) := by decide +kernel
theorem f_256_157 : decode (mB 256) 157 = .ok (.invokevirtual 98, 3) := by decide +kernel
theorem f_256_160 : decode (mB 256) 160 = .ok (.imul, 1) := by decide +kernel
theorem f_256_161 : decode (mB 256) 161 = .ok (.iadd, 1) := by decide +kernel
theorem f_256_162 : decode (mB 256) 162 = .ok (.iconst 2, 1) := by decide +kernel
theorem f_256_163 : decode (mB 256) 163 = .ok (.iadd, 1) := by decide +kernel
theorem f_256_164 : decode (mB 256) 164 = .ok (.aload_n 0, 1) := by decide +kernel
theorem f_256_165 : decode (mB 256) 165 = .ok (.iload_n 1, 1) := by decide +kernel
theorem f_256_166 : decode (mB 256) 166 = .ok (.iconst 2, 1) := by decide +kernel
theorem f_256_167 : decode (mB 256) 167 = .ok (.invokevirtual 98, 3) := by decide +kernel
theorem f_256_170 : decode (mB 256) 170 = .ok (.iastore, 1) := by decide +kernel
theorem f_256_171 : decode (mB 256) 171 = .ok (.aload_n 0, 1) := by decide +kernel
theorem f_256_172 : decode (mB 256) 172 = .ok (.iload_n 1, 1) := by decide +kernel
theorem f_256_173 : decode (mB 256) 173 = .ok (.iconst 1, 1) := by decide +kernel
theorem f_256_174 : decode (mB 256) 174 = .ok (.invokevirtual 155, 3) := by decide +kernel
theorem f_256_177 : decode (mB 256) 177 = .ok (.iinc 1 1, 3) := by decide +kernel
theorem f_256_180 : decode (mB 256) 180 = .ok (.goto (-178), 3) := by decide +kernel
theorem f_256_183 : decode (mB 256) 183 = .ok (.return_, 1) := by decide +kernel
theorem f_257_0 : decode (mB 257) 0 = .ok (.iconst 0, 1) := by decide +kernel
theorem f_257_1 : decode (mB 257) 1 = .ok (.istore_n 1, 1) := by decide +kernel
theorem f_257_2 : decode (mB 257) 2 = .ok (.iload_n 1, 1) := by decide +kernel
theorem f_257_3 : decode (mB 257) 3 = .ok (.aload_n 0, 1) := by decide +kernel
theorem f_257_4 : decode (mB 257) 4 = .ok (.getfield 7, 3) := by decide +kernel
theorem f_257_7 : decode (mB 257) 7 = .ok (.iconst 2, 1) := by decide +kernel
theorem f_257_8 : decode (mB 257) 8 = .ok (.iaload, 1) := by decide +kernel
theorem f_257_9 : decode (mB 257) 9 = .ok (.if_icmp .ge 46, 3) := by decide +kernel
theorem f_257_12 : decode (mB 257) 12 = .ok (.aload_n 0, 1) := by decide +kernel
theorem f_257_13 : decode (mB 257) 13 = .ok (.iload_n 1, 1) := by decide +kernel
theorem f_257_14 : decode (mB 257) 14 = .ok (.invokevirtual 95, 3) := by decide +kernel
theorem f_257_17 : decode (mB 257) 17 = .ok (.ifCond .eq 32, 3) := by decide +kernel
theorem f_257_20 : decode (mB 257) 20 = .ok (.aload_n 0, 1) := by decide +kernel
theorem f_257_21 : decode (mB 257) 21 = .ok (.iload_n 1, 1) := by decide +kernel
theorem f_257_22 : decode (mB 257) 22 = .ok (.aload_n 0, 1) := by decide +kernel
theorem f_257_23 : decode (mB 257) 23 = .ok (.iload_n 1, 1) := by decide +kernel
theorem f_257_24 : decode (mB 257) 24 = .ok (.iconst 0, 1) := by decide +kernel
theorem f_257_25 : decode (mB 257) 25 = .ok (.invokevirtual 98, 3) := by decide +kernel
theorem f_257_28 : decode (mB 257) 28 = .ok (.iconst 0, 1) := by decide +kernel
theorem f_257_29 : decode (mB 257) 29 = .ok (.aload_n 0, 1) := by decide +kernel
theorem f_257_30 : decode (mB 257) 30 = .ok (.getfield 7, 3) := by decide +kernel
theorem f_257_33 : decode (mB 257) 33 = .ok (.iconst 3, 1) := by decide +kernel
theorem f_257_34 : decode (mB 257) 34 = .ok (.iaload, 1) := by decide +kernel
theorem f_257_35 : decode (mB 257) 35 = .ok (.iconst 0, 1) := by decide +kernel
theorem f_257_36 : decode (mB 257) 36 = .ok (.invokevirtual 248, 3) := by decide +kernel
theorem f_257_39 : decode (mB 257) 39 = .ok (.iconst 2, 1) := by decide +kernel
theorem f_257_40 : decode (mB 257) 40 = .ok (.if_icmp .ne 9, 3) := by decide +kernel
theorem f_257_43 : decode (mB 257) 43 = .ok (.aload_n 0, 1) := by decide +kernel
theorem f_257_44 : decode (mB 257) 44 = .ok (.iload_n 1, 1) := by decide +kernel
theorem f_257_45 : decode (mB 257) 45 = .ok (.iconst 2, 1) := by decide +kernel
theorem f_257_46 : decode (mB 257) 46 = .ok (.invokevirtual 155, 3) := by decide +kernel
theorem f_257_49 : decode (mB 257) 49 = .ok (.iinc 1 1, 3) := by decide +kernel
theorem f_257_52 : decode (mB 257) 52 = .ok (.goto (-50), 3) := by decide +kernel
theorem f_257_55 : decode (mB 257) 55 = .ok (.iconst 0, 1) := by decide +kernel
theorem f_257_56 : decode (mB 257) 56 = .ok (.istore_n 1, 1) := by decide +kernel
theorem f_257_57 : decode (mB 257) 57 = .ok (.iload_n 1, 1) := by decide +kernel
theorem f_257_58 : decode (mB 257) 58 = .ok (.aload_n 0, 1) := by decide +kernel
theorem f_257_59 : decode (mB 257) 59 = .ok (.getfield 7, 3) := by decide +kernel
theorem f_257_62 : decode (mB 257) 62 = .ok (.iconst 1, 1) := by decide +kernel
theorem f_257_63 : decode (mB 257) 63 = .ok (.iaload, 1) := by decide +kernel
theorem f_257_64 : decode (mB 257) 64 = .ok (.if_icmp .ge 77, 3) := by decide +kernel
theorem f_257_67 : decode (mB 257) 67 = .ok (.aload_n 0, 1) := by decide +kernel
theorem f_257_68 : decode (mB 257) 68 = .ok (.iload_n 1, 1) := by decide +kernel
theorem f_257_69 : decode (mB 257) 69 = .ok (.iconst 0, 1) := by decide +kernel
theorem f_257_70 : decode (mB 257) 70 = .ok (.aload_n 0, 1) := by decide +kernel
theorem f_257_71 : decode (mB 257) 71 = .ok (.getfield 7, 3) := by decide +kernel
theorem f_257_74 : decode (mB 257) 74 = .ok (.iconst 3, 1) := by decide +kernel
theorem f_257_75 : decode (mB 257) 75 = .ok (.iaload, 1) := by decide +kernel
theorem f_257_76 : decode (mB 257) 76 = .ok (.invokevirtual 252, 3) := by decide +kernel
theorem f_257_79 : decode (mB 257) 79 = .ok (.ifCond .eq 16, 3) := by decide +kernel
theorem f_257_82 : decode (mB 257) 82 = .ok (.aload_n 0, 1) := by decide +kernel
theorem f_257_83 : decode (mB 257) 83 = .ok (.aload_n 0, 1) := by decide +kernel
theorem f_257_84 : decode (mB 257) 84 = .ok (.iload_n 1, 1) := by decide +kernel
theorem f_257_85 : decode (mB 257) 85 = .ok (.iconst 1, 1) := by decide +kernel
theorem f_257_86 : decode (mB 257) 86 = .ok (.invokevirtual 111, 3) := by decide +kernel
theorem f_257_89 : decode (mB 257) 89 = .ok (.invokevirtual 128, 3) := by decide +kernel
theorem f_257_92 : decode (mB 257) 92 = .ok (.goto 4, 3) := by decide +kernel
theorem f_257_95 : decode (mB 257) 95 = .ok (.iconst 0, 1) := by decide +kernel
theorem f_257_96 : decode (mB 257) 96 = .ok (.istore_n 2, 1) := by decide +kernel
theorem f_257_97 : decode (mB 257) 97 = .ok (.iload_n 2, 1) := by decide +kernel
theorem f_257_98 : decode (mB 257) 98 = .ok (.ifCond .ne 6, 3) := by decide +kernel
theorem f_257_101 : decode (mB 257) 101 = .ok (.goto 34, 3) := by decide +kernel
theorem f_257_104 : decode (mB 257) 104 = .ok (.iconst 0, 1) := by decide +kernel
theorem f_257_105 : decode (mB 257) 105 = .ok (.istore_n 3, 1) := by decide +kernel
theorem f_257_106 : decode (mB 257) 106 = .ok (.iload_n 2, 1) := by decide +kernel
theorem f_257_107 : decode (mB 257) 107 = .ok (.iload_n 3, 1) := by decide +kernel
theorem f_257_108 : decode (mB 257) 108 = .ok (.ishr, 1) := by decide +kernel
theorem f_257_109 : decode (mB 257) 109 = .ok (.iconst 1, 1) := by decide +kernel
theorem f_257_110 : decode (mB 257) 110 = .ok (.iand, 1) := by decide +kernel
theorem f_257_111 : decode (mB 257) 111 = .ok (.ifCond .ne 9, 3) := by decide +kernel
theorem f_257_114 : decode (mB 257) 114 = .ok (.iinc 3 1, 3) := by decide +kernel
theorem f_257_117 : decode (mB 257) 117 = .ok (.goto (-11), 3) := by decide +kernel
theorem f_257_120 : decode (mB 257) 120 = .ok (.aload_n 0, 1) := by decide +kernel
theorem f_257_121 : decode (mB 257) 121 = .ok (.getfield 7, 3) := by decide +kernel
theorem f_257_124 : decode (mB 257) 124 = .ok (.sipush 150, 3) := by decide +kernel
theorem f_257_127 : decode (mB 257) 127 = .ok (.iconst 4, 1) := by decide +kernel
theorem f_257_128 : decode (mB 257) 128 = .ok (.iload_n 1, 1) := by decide +kernel
theorem f_257_129 : decode (mB 257) 129 = .ok (.imul, 1) := by decide +kernel
theorem f_257_130 : decode (mB 257) 130 = .ok (.iadd, 1) := by decide +kernel
theorem f_257_131 : decode (mB 257) 131 = .ok (.iconst 2, 1) := by decide +kernel
theorem f_257_132 : decode (mB 257) 132 = .ok (.iadd, 1) := by decide +kernel
theorem f_257_133 : decode (mB 257) 133 = .ok (.iload_n 3, 1) := by decide +kernel
theorem f_257_134 : decode (mB 257) 134 = .ok (.iastore, 1) := by decide +kernel
theorem f_257_135 : decode (mB 257) 135 = .ok (.iinc 1 1, 3) := by decide +kernel
theorem f_257_138 : decode (mB 257) 138 = .ok (.goto (-81), 3) := by decide +kernel
theorem f_257_141 : decode (mB 257) 141 = .ok (.return_, 1) := by decide +kernel
theorem f_258_0 : decode (mB 258) 0 = .ok (.iload_n 1, 1) := by decide +kernel
theorem f_258_1 : decode (mB 258) 1 = .ok (.invokestatic 273, 3) := by decide +kernel
theorem f_258_4 : decode (mB 258) 4 = .ok (.ifCond .ne 10, 3) := by decide +kernel
theorem f_258_7 : decode (mB 258) 7 = .ok (.aload_n 0, 1) := by decide +kernel
theorem f_258_8 : decode (mB 258) 8 = .ok (.ldc 77, 2) := by decide +kernel
theorem f_258_10 : decode (mB 258) 10 = .ok (.invokevirtual 78, 3) := by decide +kernel
theorem f_258_13 : decode (mB 258) 13 = .ok (.ireturn, 1) := by decide +kernel
theorem f_258_14 : decode (mB 258) 14 = .ok (.aload_n 0, 1) := by decide +kernel
theorem f_258_15 : decode (mB 258) 15 = .ok (.getfield 53, 3) := by decide +kernel
theorem f_258_18 : decode (mB 258) 18 = .ok (.iload_n 1, 1) := by decide +kernel
theorem f_258_19 : decode (mB 258) 19 = .ok (.iaload, 1) := by decide +kernel
theorem f_258_20 : decode (mB 258) 20 = .ok (.ifCond .ne 10, 3) := by decide +kernel
theorem f_258_23 : decode (mB 258) 23 = .ok (.aload_n 0, 1) := by decide +kernel
theorem f_258_24 : decode (mB 258) 24 = .ok (.ldc 139, 2) := by decide +kernel
theorem f_258_26 : decode (mB 258) 26 = .ok (.invokevirtual 78, 3) := by decide +kernel
theorem f_258_29 : decode (mB 258) 29 = .ok (.ireturn, 1) := by decide +kernel
theorem f_258_30 : decode (mB 258) 30 = .ok (.bipush 10, 2) := by decide +kernel
theorem f_258_32 : decode (mB 258) 32 = .ok (.istore_n 2, 1) := by decide +kernel
theorem f_258_33 : decode (mB 258) 33 = .ok (.iconst 0, 1) := by decide +kernel
theorem f_258_34 : decode (mB 258) 34 = .ok (.istore_n 3, 1) := by decide +kernel
theorem f_258_35 : decode (mB 258) 35 = .ok (.iload_n 3, 1) := by decide +kernel
theorem f_258_36 : decode (mB 258) 36 = .ok (.aload_n 0, 1) := by decide +kernel
theorem f_258_37 : decode (mB 258) 37 = .ok (.getfield 56, 3) := by decide +kernel
theorem f_258_40 : decode (mB 258) 40 = .ok (.iload_n 1, 1) := by decide +kernel
theorem f_258_41 : decode (mB 258) 41 = .ok (.iaload, 1) := by decide +kernel
theorem f_258_42 : decode (mB 258) 42 = .ok (.if_icmp .ge 59, 3) := by decide +kernel
theorem f_258_45 : decode (mB 258) 45 = .ok (.aload_n 0, 1) := by decide +kernel
theorem f_258_46 : decode (mB 258) 46 = .ok (.getfield 7, 3) := by decide +kernel
theorem f_258_49 : decode (mB 258) 49 = .ok (.iconst 3, 1) := by decide +kernel
theorem f_258_50 : decode (mB 258) 50 = .ok (.iaload, 1) := by decide +kernel
theorem f_258_51 : decode (mB 258) 51 = .ok (.sipush 400, 3) := by decide +kernel
theorem f_258_54 : decode (mB 258) 54 = .ok (.if_icmp .ge 47, 3) := by decide +kernel
theorem f_258_57 : decode (mB 258) 57 = .ok (.aload_n 0, 1) := by decide +kernel
theorem f_258_58 : decode (mB 258) 58 = .ok (.getfield 59, 3) := by decide +kernel
theorem f_258_61 : decode (mB 258) 61 = .ok (.bipush 20, 2) := by decide +kernel
theorem f_258_63 : decode (mB 258) 63 = .ok (.iload_n 1, 1) := by decide +kernel
theorem f_258_64 : decode (mB 258) 64 = .ok (.imul, 1) := by decide +kernel
theorem f_258_65 : decode (mB 258) 65 = .ok (.iload_n 3, 1) := by decide +kernel
theorem f_258_66 : decode (mB 258) 66 = .ok (.iadd, 1) := by decide +kernel
theorem f_258_67 : decode (mB 258) 67 = .ok (.iaload, 1) := by decide +kernel
theorem f_258_68 : decode (mB 258) 68 = .ok (.istore 4, 2) := by decide +kernel
theorem f_258_70 : decode (mB 258) 70 = .ok (.iload 4, 2) := by decide +kernel
theorem f_258_72 : decode (mB 258) 72 = .ok (.iconst 0, 1) := by decide +kernel
theorem f_258_73 : decode (mB 258) 73 = .ok (.bipush 30, 2) := by decide +kernel
theorem f_258_75 : decode (mB 258) 75 = .ok (.invokestatic 69, 3) := by decide +kernel
theorem f_258_78 : decode (mB 258) 78 = .ok (.ifCond .eq 8, 3) := by decide +kernel
theorem f_258_81 : decode (mB 258) 81 = .ok (.iload 4, 2) := by decide +kernel
theorem f_258_83 : decode (mB 258) 83 = .ok (.goto 4, 3) := by decide +kernel
theorem f_258_86 : decode (mB 258) 86 = .ok (.iload_n 2, 1) := by decide +kernel
theorem f_258_87 : decode (mB 258) 87 = .ok (.istore_n 2, 1) := by decide +kernel
theorem f_258_88 : decode (mB 258) 88 = .ok (.aload_n 0, 1) := by decide +kernel
theorem f_258_89 : decode (mB 258) 89 = .ok (.iload_n 2, 1) := by decide +kernel
theorem f_258_90 : decode (mB 258) 90 = .ok (.invokevirtual 270, 3) := by decide +kernel
theorem f_258_93 : decode (mB 258) 93 = .ok (.istore 5, 2) := by decide +kernel
theorem f_258_95 : decode (mB 258) 95 = .ok (.iinc 3 1, 3) := by decide +kernel
theorem f_258_98 : decode (mB 258) 98 = .ok (.goto (-63), 3) := by decide +kernel
theorem f_258_101 : decode (mB 258) 101 = .ok (.iload_n 3, 1) := by decide +kernel
theorem f_258_102 : decode (mB 258) 102 = .ok (.ireturn, 1) := by decide +kernel
theorem f_259_0 : decode (mB 259) 0 = .ok (.iload_n 0, 1) := by decide +kernel
theorem f_259_1 : decode (mB 259) 1 = .ok (.iconst 0, 1) := by decide +kernel
theorem f_259_2 : decode (mB 259) 2 = .ok (.iconst 3, 1) := by decide +kernel
theorem f_259_3 : decode (mB 259) 3 = .ok (.invokestatic 69, 3) := by decide +kernel
theorem f_259_6 : decode (mB 259) 6 = .ok (.ireturn, 1) := by decide +kernel
theorem f_260_0 : decode (mB 260) 0 = .ok (.aload_n 0, 1) := by decide +kernel
theorem f_260_1 : decode (mB 260) 1 = .ok (.iload_n 1, 1) := by decide +kernel
theorem f_260_2 : decode (mB 260) 2 = .ok (.invokevirtual 144, 3) := by decide +kernel
theorem f_260_5 : decode (mB 260) 5 = .ok (.ifCond .ne 10, 3) := by decide +kernel
theorem f_260_8 : decode (mB 260) 8 = .ok (.aload_n 0, 1) := by decide +kernel
theorem f_260_9 : decode (mB 260) 9 = .ok (.ldc 77, 2) := by decide +kernel
theorem f_260_11 : decode (mB 260) 11 = .ok (.invokevirtual 78, 3) := by decide +kernel
theorem f_260_14 : decode (mB 260) 14 = .ok (.ireturn, 1) := by decide +kernel
theorem f_260_15 : decode (mB 260) 15 = .ok (.iconst 0, 1) := by decide +kernel
theorem f_260_16 : decode (mB 260) 16 = .ok (.istore_n 2, 1) := by decide +kernel
theorem f_260_17 : decode (mB 260) 17 = .ok (.iconst 1, 1) := by decide +kernel
theorem f_260_18 : decode (mB 260) 18 = .ok (.istore_n 3, 1) := by decide +kernel
theorem f_260_19 : decode (mB 260) 19 = .ok (.iload_n 3, 1) := by decide +kernel
theorem f_260_20 : decode (mB 260) 20 = .ok (.ifCond .eq 84, 3) := by decide +kernel
theorem f_260_23 : decode (mB 260) 23 = .ok (.iconst 0, 1) := by decide +kernel
theorem f_260_24 : decode (mB 260) 24 = .ok (.istore 4, 2) := by decide +kernel
theorem f_260_26 : decode (mB 260) 26 = .ok (.iconst 0, 1) := by decide +kernel
theorem f_260_27 : decode (mB 260) 27 = .ok (.istore 5, 2) := by decide +kernel
theorem f_260_29 : decode (mB 260) 29 = .ok (.iload 5, 2) := by decide +kernel
theorem f_260_31 : decode (mB 260) 31 = .ok (.aload_n 0, 1) := by decide +kernel
theorem f_260_32 : decode (mB 260) 32 = .ok (.getfield 7, 3) := by decide +kernel
theorem f_260_35 : decode (mB 260) 35 = .ok (.iconst 0, 1) := by decide +kernel
theorem f_260_36 : decode (mB 260) 36 = .ok (.iaload, 1) := by decide +kernel
theorem f_260_37 : decode (mB 260) 37 = .ok (.if_icmp .ge 49, 3) := by decide +kernel
theorem f_260_40 : decode (mB 260) 40 = .ok (.iload 4, 2) := by decide +kernel
theorem f_260_42 : decode (mB 260) 42 = .ok (.aload_n 0, 1) := by decide +kernel
theorem f_260_43 : decode (mB 260) 43 = .ok (.iload 5, 2) := by decide +kernel
theorem f_260_45 : decode (mB 260) 45 = .ok (.iload_n 1, 1) := by decide +kernel
theorem f_260_46 : decode (mB 260) 46 = .ok (.invokevirtual 104, 3) := by decide +kernel
theorem f_260_49 : decode (mB 260) 49 = .ok (.aload_n 0, 1) := by decide +kernel
theorem f_260_50 : decode (mB 260) 50 = .ok (.iload 5, 2) := by decide +kernel
theorem f_260_52 : decode (mB 260) 52 = .ok (.bipush 6, 2) := by decide +kernel
theorem f_260_54 : decode (mB 260) 54 = .ok (.invokevirtual 73, 3) := by decide +kernel
theorem f_260_57 : decode (mB 260) 57 = .ok (.aload_n 0, 1) := by decide +kernel
theorem f_260_58 : decode (mB 260) 58 = .ok (.iload 5, 2) := by decide +kernel
theorem f_260_60 : decode (mB 260) 60 = .ok (.iload_n 1, 1) := by decide +kernel
theorem f_260_61 : decode (mB 260) 61 = .ok (.iload_n 2, 1) := by decide +kernel
theorem f_260_62 : decode (mB 260) 62 = .ok (.invokevirtual 107, 3) := by decide +kernel
theorem f_260_65 : decode (mB 260) 65 = .ok (.iadd, 1) := by decide +kernel
theorem f_260_66 : decode (mB 260) 66 = .ok (.if_icmp .le 10, 3) := by decide +kernel
theorem f_260_69 : decode (mB 260) 69 = .ok (.iconst 1, 1) := by decide +kernel
theorem f_260_70 : decode (mB 260) 70 = .ok (.iload 5, 2) := by decide +kernel
theorem f_260_72 : decode (mB 260) 72 = .ok (.ishl, 1) := by decide +kernel
theorem f_260_73 : decode (mB 260) 73 = .ok (.goto 4, 3) := by decide +kernel
theorem f_260_76 : decode (mB 260) 76 = .ok (.iconst 0, 1) := by decide +kernel
theorem f_260_77 : decode (mB 260) 77 = .ok (.ior, 1) := by decide +kernel
theorem f_260_78 : decode (mB 260) 78 = .ok (.istore 4, 2) := by decide +kernel
theorem f_260_80 : decode (mB 260) 80 = .ok (.iinc 5 1, 3) := by decide +kernel
theorem f_260_83 : decode (mB 260) 83 = .ok (.goto (-54), 3) := by decide +kernel
theorem f_260_86 : decode (mB 260) 86 = .ok (.iload 4, 2) := by decide +kernel
theorem f_260_88 : decode (mB 260) 88 = .ok (.iload_n 2, 1) := by decide +kernel
theorem f_260_89 : decode (mB 260) 89 = .ok (.if_icmp .eq 7, 3) := by decide +kernel
theorem f_260_92 : decode (mB 260) 92 = .ok (.iconst 1, 1) := by decide +kernel
theorem f_260_93 : decode (mB 260) 93 = .ok (.goto 4, 3) := by decide +kernel
theorem f_260_96 : decode (mB 260) 96 = .ok (.iconst 0, 1) := by decide +kernel
theorem f_260_97 : decode (mB 260) 97 = .ok (.istore_n 3, 1) := by decide +kernel
theorem f_260_98 : decode (mB 260) 98 = .ok (.iload 4, 2) := by decide +kernel
theorem f_260_100 : decode (mB 260) 100 = .ok (.istore_n 2, 1) := by decide +kernel
theorem f_260_101 : decode (mB 260) 101 = .ok (.goto (-82), 3) := by decide +kernel
theorem f_260_104 : decode (mB 260) 104 = .ok (.iload_n 2, 1) := by decide +kernel
theorem f_260_105 : decode (mB 260) 105 = .ok (.ireturn, 1) := by decide +kernel
theorem f_261_0 : decode (mB 261) 0 = .ok (.iload_n 1, 1) := by decide +kernel
theorem f_261_1 : decode (mB 261) 1 = .ok (.iload_n 2, 1) := by decide +kernel
theorem f_261_2 : decode (mB 261) 2 = .ok (.iload_n 3, 1) := by decide +kernel
theorem f_261_3 : decode (mB 261) 3 = .ok (.iload 4, 2) := by decide +kernel
theorem f_261_5 : decode (mB 261) 5 = .ok (.invokestatic 289, 3) := by decide +kernel
theorem f_261_8 : decode (mB 261) 8 = .ok (.ifCond .ne 10, 3) := by decide +kernel
theorem f_261_11 : decode (mB 261) 11 = .ok (.aload_n 0, 1) := by decide +kernel
theorem f_261_12 : decode (mB 261) 12 = .ok (.ldc 77, 2) := by decide +kernel
theorem f_261_14 : decode (mB 261) 14 = .ok (.invokevirtual 78, 3) := by decide +kernel
theorem f_261_17 : decode (mB 261) 17 = .ok (.ireturn, 1) := by decide +kernel
theorem f_261_18 : decode (mB 261) 18 = .ok (.aload_n 0, 1) := by decide +kernel
theorem f_261_19 : decode (mB 261) 19 = .ok (.iload_n 3, 1) := by decide +kernel
theorem f_261_20 : decode (mB 261) 20 = .ok (.iload_n 2, 1) := by decide +kernel
theorem f_261_21 : decode (mB 261) 21 = .ok (.iload 4, 2) := by decide +kernel
theorem f_261_23 : decode (mB 261) 23 = .ok (.bipush 100, 2) := by decide +kernel
theorem f_261_25 : decode (mB 261) 25 = .ok (.idiv, 1) := by decide +kernel
theorem f_261_26 : decode (mB 261) 26 = .ok (.iload 4, 2) := by decide +kernel
theorem f_261_28 : decode (mB 261) 28 = .ok (.bipush 100, 2) := by decide +kernel
theorem f_261_30 : decode (mB 261) 30 = .ok (.irem, 1) := by decide +kernel
theorem f_261_31 : decode (mB 261) 31 = .ok (.invokevirtual 293, 3) := by decide +kernel
theorem f_261_34 : decode (mB 261) 34 = .ok (.aload_n 0, 1) := by decide +kernel
theorem f_261_35 : decode (mB 261) 35 = .ok (.getfield 50, 3) := by decide +kernel
theorem f_261_38 : decode (mB 261) 38 = .ok (.iload_n 3, 1) := by decide +kernel
theorem f_261_39 : decode (mB 261) 39 = .ok (.iload_n 1, 1) := by decide +kernel
theorem f_261_40 : decode (mB 261) 40 = .ok (.iload_n 2, 1) := by decide +kernel
theorem f_261_41 : decode (mB 261) 41 = .ok (.invokestatic 276, 3) := by decide +kernel
theorem f_261_44 : decode (mB 261) 44 = .ok (.iaload, 1) := by decide +kernel
theorem f_261_45 : decode (mB 261) 45 = .ok (.ireturn, 1) := by decide +kernel
theorem f_262_0 : decode (mB 262) 0 = .ok (.iload_n 0, 1) := by decide +kernel
theorem f_262_1 : decode (mB 262) 1 = .ok (.iconst 0, 1) := by decide +kernel
theorem f_262_2 : decode (mB 262) 2 = .ok (.bipush 60, 2) := by decide +kernel
theorem f_262_4 : decode (mB 262) 4 = .ok (.invokestatic 69, 3) := by decide +kernel
theorem f_262_7 : decode (mB 262) 7 = .ok (.ifCond .eq 68, 3) := by decide +kernel
theorem f_262_10 : decode (mB 262) 10 = .ok (.iload_n 1, 1) := by decide +kernel
theorem f_262_11 : decode (mB 262) 11 = .ok (.iconst 0, 1) := by decide +kernel
theorem f_262_12 : decode (mB 262) 12 = .ok (.bipush 60, 2) := by decide +kernel
theorem f_262_14 : decode (mB 262) 14 = .ok (.invokestatic 69, 3) := by decide +kernel
theorem f_262_17 : decode (mB 262) 17 = .ok (.ifCond .eq 58, 3) := by decide +kernel
theorem f_262_20 : decode (mB 262) 20 = .ok (.iload_n 2, 1) := by decide +kernel
theorem f_262_21 : decode (mB 262) 21 = .ok (.iconst 0, 1) := by decide +kernel
theorem f_262_22 : decode (mB 262) 22 = .ok (.bipush 8, 2) := by decide +kernel
theorem f_262_24 : decode (mB 262) 24 = .ok (.invokestatic 69, 3) := by decide +kernel
theorem f_262_27 : decode (mB 262) 27 = .ok (.ifCond .eq 48, 3) := by decide +kernel
theorem f_262_30 : decode (mB 262) 30 = .ok (.iload_n 3, 1) := by decide +kernel
theorem f_262_31 : decode (mB 262) 31 = .ok (.ifCond .lt 44, 3) := by decide +kernel
theorem f_262_34 : decode (mB 262) 34 = .ok (.iload_n 3, 1) := by decide +kernel
theorem f_262_35 : decode (mB 262) 35 = .ok (.bipush 100, 2) := by decide +kernel
theorem f_262_37 : decode (mB 262) 37 = .ok (.idiv, 1) := by decide +kernel
theorem f_262_38 : decode (mB 262) 38 = .ok (.iconst 0, 1) := by decide +kernel
theorem f_262_39 : decode (mB 262) 39 = .ok (.bipush 30, 2) := by decide +kernel
theorem f_262_41 : decode (mB 262) 41 = .ok (.invokestatic 69, 3) := by decide +kernel
theorem f_262_44 : decode (mB 262) 44 = .ok (.ifCond .eq 31, 3) := by decide +kernel
theorem f_262_47 : decode (mB 262) 47 = .ok (.iload_n 3, 1) := by decide +kernel
theorem f_262_48 : decode (mB 262) 48 = .ok (.bipush 100, 2) := by decide +kernel
theorem f_262_50 : decode (mB 262) 50 = .ok (.irem, 1) := by decide +kernel
theorem f_262_51 : decode (mB 262) 51 = .ok (.iconst 0, 1) := by decide +kernel
theorem f_262_52 : decode (mB 262) 52 = .ok (.bipush 30, 2) := by decide +kernel
theorem f_262_54 : decode (mB 262) 54 = .ok (.invokestatic 69, 3) := by decide +kernel
theorem f_262_57 : decode (mB 262) 57 = .ok (.ifCond .eq 18, 3) := by decide +kernel
theorem f_262_60 : decode (mB 262) 60 = .ok (.iload_n 3, 1) := by decide +kernel
theorem f_262_61 : decode (mB 262) 61 = .ok (.bipush 100, 2) := by decide +kernel
theorem f_262_63 : decode (mB 262) 63 = .ok (.idiv, 1) := by decide +kernel
theorem f_262_64 : decode (mB 262) 64 = .ok (.iload_n 3, 1) := by decide +kernel
theorem f_262_65 : decode (mB 262) 65 = .ok (.bipush 100, 2) := by decide +kernel
theorem f_262_67 : decode (mB 262) 67 = .ok (.irem, 1) := by decide +kernel
theorem f_262_68 : decode (mB 262) 68 = .ok (.if_icmp .gt 7, 3) := by decide +kernel
theorem f_262_71 : decode (mB 262) 71 = .ok (.iconst 1, 1) := by decide +kernel
theorem f_262_72 : decode (mB 262) 72 = .ok (.goto 4, 3) := by decide +kernel
theorem f_262_75 : decode (mB 262) 75 = .ok (.iconst 0, 1) := by decide +kernel
theorem f_262_76 : decode (mB 262) 76 = .ok (.ireturn, 1) := by decide +kernel
theorem f_263_0 : decode (mB 263) 0 = .ok (.iconst 0, 1) := by decide +kernel
theorem f_263_1 : decode (mB 263) 1 = .ok (.istore 5, 2) := by decide +kernel
theorem f_263_3 : decode (mB 263) 3 = .ok (.iload 5, 2) := by decide +kernel
theorem f_263_5 : decode (mB 263) 5 = .ok (.bipush 60, 2) := by decide +kernel
theorem f_263_7 : decode (mB 263) 7 = .ok (.if_icmp .gt 41, 3) := by decide +kernel
theorem f_263_10 : decode (mB 263) 10 = .ok (.iconst 0, 1) := by decide +kernel
theorem f_263_11 : decode (mB 263) 11 = .ok (.istore 6, 2) := by decide +kernel
theorem f_263_13 : decode (mB 263) 13 = .ok (.iload 6, 2) := by decide +kernel
theorem f_263_15 : decode (mB 263) 15 = .ok (.iload_n 2, 1) := by decide +kernel
theorem f_263_16 : decode (mB 263) 16 = .ok (.if_icmp .gt 26, 3) := by decide +kernel
theorem f_263_19 : decode (mB 263) 19 = .ok (.aload_n 0, 1) := by decide +kernel
theorem f_263_20 : decode (mB 263) 20 = .ok (.getfield 50, 3) := by decide +kernel
theorem f_263_23 : decode (mB 263) 23 = .ok (.iconst 0, 1) := by decide +kernel
theorem f_263_24 : decode (mB 263) 24 = .ok (.iload 5, 2) := by decide +kernel
theorem f_263_26 : decode (mB 263) 26 = .ok (.iload 6, 2) := by decide +kernel
theorem f_263_28 : decode (mB 263) 28 = .ok (.invokestatic 276, 3) := by decide +kernel
theorem f_263_31 : decode (mB 263) 31 = .ok (.iconst 2, 1) := by decide +kernel
theorem f_263_32 : decode (mB 263) 32 = .ok (.iload 6, 2) := by decide +kernel
theorem f_263_34 : decode (mB 263) 34 = .ok (.imul, 1) := by decide +kernel
theorem f_263_35 : decode (mB 263) 35 = .ok (.iastore, 1) := by decide +kernel
theorem f_263_36 : decode (mB 263) 36 = .ok (.iinc 6 1, 3) := by decide +kernel
theorem f_263_39 : decode (mB 263) 39 = .ok (.goto (-26), 3) := by decide +kernel
theorem f_263_42 : decode (mB 263) 42 = .ok (.iinc 5 1, 3) := by decide +kernel
theorem f_263_45 : decode (mB 263) 45 = .ok (.goto (-42), 3) := by decide +kernel
theorem f_263_48 : decode (mB 263) 48 = .ok (.iconst 1, 1) := by decide +kernel
theorem f_263_49 : decode (mB 263) 49 = .ok (.istore 5, 2) := by decide +kernel
theorem f_263_51 : decode (mB 263) 51 = .ok (.iload 5, 2) := by decide +kernel
theorem f_263_53 : decode (mB 263) 53 = .ok (.iload_n 1, 1) := by decide +kernel
theorem f_263_54 : decode (mB 263) 54 = .ok (.if_icmp .gt 101, 3) := by decide +kernel
theorem f_263_57 : decode (mB 263) 57 = .ok (.iconst 0, 1) := by decide +kernel
theorem f_263_58 : decode (mB 263) 58 = .ok (.istore 6, 2) := by decide +kernel
theorem f_263_60 : decode (mB 263) 60 = .ok (.iload 6, 2) := by decide +kernel
theorem f_263_62 : decode (mB 263) 62 = .ok (.bipush 60, 2) := by decide +kernel
theorem f_263_64 : decode (mB 263) 64 = .ok (.if_icmp .gt 85, 3) := by decide +kernel
theorem f_263_67 : decode (mB 263) 67 = .ok (.iconst 0, 1) := by decide +kernel
theorem f_263_68 : decode (mB 263) 68 = .ok (.istore 7, 2) := by decide +kernel
theorem f_263_70 : decode (mB 263) 70 = .ok (.iload 7, 2) := by decide +kernel
theorem f_263_72 : decode (mB 263) 72 = .ok (.iload_n 2, 1) := by decide +kernel
theorem f_263_73 : decode (mB 263) 73 = .ok (.if_icmp .gt 70, 3) := by decide +kernel
theorem f_263_76 : decode (mB 263) 76 = .ok (.aload_n 0, 1) := by decide +kernel
theorem f_263_77 : decode (mB 263) 77 = .ok (.iload 5, 2) := by decide +kernel
theorem f_263_79 : decode (mB 263) 79 = .ok (.iconst 1, 1) := by decide +kernel
theorem f_263_80 : decode (mB 263) 80 = .ok (.isub, 1) := by decide +kernel
theorem f_263_81 : decode (mB 263) 81 = .ok (.iload 6, 2) := by decide +kernel
theorem f_263_83 : decode (mB 263) 83 = .ok (.iload_n 3, 1) := by decide +kernel
theorem f_263_84 : decode (mB 263) 84 = .ok (.iadd, 1) := by decide +kernel
theorem f_263_85 : decode (mB 263) 85 = .ok (.iload 7, 2) := by decide +kernel
theorem f_263_87 : decode (mB 263) 87 = .ok (.invokevirtual 286, 3) := by decide +kernel
theorem f_263_90 : decode (mB 263) 90 = .ok (.istore 8, 2) := by decide +kernel
theorem f_263_92 : decode (mB 263) 92 = .ok (.aload_n 0, 1) := by decide +kernel
theorem f_263_93 : decode (mB 263) 93 = .ok (.iload 5, 2) := by decide +kernel
theorem f_263_95 : decode (mB 263) 95 = .ok (.iconst 1, 1) := by decide +kernel
theorem f_263_96 : decode (mB 263) 96 = .ok (.isub, 1) := by decide +kernel
theorem f_263_97 : decode (mB 263) 97 = .ok (.iload 6, 2) := by decide +kernel
theorem f_263_99 : decode (mB 263) 99 = .ok (.iload 4, 2) := by decide +kernel
theorem f_263_101 : decode (mB 263) 101 = .ok (.iadd, 1) := by decide +kernel
theorem f_263_102 : decode (mB 263) 102 = .ok (.iload 7, 2) := by decide +kernel
theorem f_263_104 : decode (mB 263) 104 = .ok (.invokevirtual 286, 3) := by decide +kernel
theorem f_263_107 : decode (mB 263) 107 = .ok (.istore 9, 2) := by decide +kernel
theorem f_263_109 : decode (mB 263) 109 = .ok (.aload_n 0, 1) := by decide +kernel
theorem f_263_110 : decode (mB 263) 110 = .ok (.getfield 50, 3) := by decide +kernel
theorem f_263_113 : decode (mB 263) 113 = .ok (.iload 5, 2) := by decide +kernel
theorem f_263_115 : decode (mB 263) 115 = .ok (.iload 6, 2) := by decide +kernel
theorem f_263_117 : decode (mB 263) 117 = .ok (.iload 7, 2) := by decide +kernel
theorem f_263_119 : decode (mB 263) 119 = .ok (.invokestatic 276, 3) := by decide +kernel
theorem f_263_122 : decode (mB 263) 122 = .ok (.iload 8, 2) := by decide +kernel
theorem f_263_124 : decode (mB 263) 124 = .ok (.iload 9, 2) := by decide +kernel
theorem f_263_126 : decode (mB 263) 126 = .ok (.if_icmp .le 8, 3) := by decide +kernel
theorem f_263_129 : decode (mB 263) 129 = .ok (.iload 8, 2) := by decide +kernel
theorem f_263_131 : decode (mB 263) 131 = .ok (.goto 5, 3) := by decide +kernel
theorem f_263_134 : decode (mB 263) 134 = .ok (.iload 9, 2) := by decide +kernel
theorem f_263_136 : decode (mB 263) 136 = .ok (.iastore, 1) := by decide +kernel
theorem f_263_137 : decode (mB 263) 137 = .ok (.iinc 7 1, 3) := by decide +kernel
theorem f_263_140 : decode (mB 263) 140 = .ok (.goto (-70), 3) := by decide +kernel
theorem f_263_143 : decode (mB 263) 143 = .ok (.iinc 6 1, 3) := by decide +kernel
theorem f_263_146 : decode (mB 263) 146 = .ok (.goto (-86), 3) := by decide +kernel
theorem f_263_149 : decode (mB 263) 149 = .ok (.iinc 5 1, 3) := by decide +kernel
theorem f_263_152 : decode (mB 263) 152 = .ok (.goto (-101), 3) := by decide +kernel
theorem f_263_155 : decode (mB 263) 155 = .ok (.return_, 1) := by decide +kernel
theorem f_264_0 : decode (mB 264) 0 = .ok (.bipush 61, 2) := by decide +kernel
theorem f_264_2 : decode (mB 264) 2 = .ok (.bipush 61, 2) := by decide +kernel
theorem f_264_4 : decode (mB 264) 4 = .ok (.iload_n 0, 1) := by decide +kernel
theorem f_264_5 : decode (mB 264) 5 = .ok (.imul, 1) := by decide +kernel
theorem f_264_6 : decode (mB 264) 6 = .ok (.iload_n 1, 1) := by decide +kernel
theorem f_264_7 : decode (mB 264) 7 = .ok (.iadd, 1) := by decide +kernel
theorem f_264_8 : decode (mB 264) 8 = .ok (.imul, 1) := by decide +kernel
theorem f_264_9 : decode (mB 264) 9 = .ok (.iload_n 2, 1) := by decide +kernel
theorem f_264_10 : decode (mB 264) 10 = .ok (.iadd, 1) := by decide +kernel
theorem f_264_11 : decode (mB 264) 11 = .ok (.ireturn, 1) := by decide +kernel
theorem f_265_0 : decode (mB 265) 0 = .ok (.aload_n 0, 1) := by decide +kernel
theorem f_265_1 : decode (mB 265) 1 = .ok (.iload_n 1, 1) := by decide +kernel
theorem f_265_2 : decode (mB 265) 2 = .ok (.iload_n 2, 1) := by decide +kernel
theorem f_265_3 : decode (mB 265) 3 = .ok (.iload_n 3, 1) := by decide +kernel
theorem f_265_4 : decode (mB 265) 4 = .ok (.iconst 0, 1) := by decide +kernel
theorem f_265_5 : decode (mB 265) 5 = .ok (.invokevirtual 279, 3) := by decide +kernel
theorem f_265_8 : decode (mB 265) 8 = .ok (.istore 4, 2) := by decide +kernel
theorem f_265_10 : decode (mB 265) 10 = .ok (.iconst 1, 1) := by decide +kernel
theorem f_265_11 : decode (mB 265) 11 = .ok (.istore 5, 2) := by decide +kernel
theorem f_265_13 : decode (mB 265) 13 = .ok (.iload 5, 2) := by decide +kernel
theorem f_265_15 : decode (mB 265) 15 = .ok (.iload_n 2, 1) := by decide +kernel
theorem f_265_16 : decode (mB 265) 16 = .ok (.iload_n 3, 1) := by decide +kernel
theorem f_265_17 : decode (mB 265) 17 = .ok (.invokestatic 283, 3) := by decide +kernel
theorem f_265_20 : decode (mB 265) 20 = .ok (.if_icmp .gt 36, 3) := by decide +kernel
theorem f_265_23 : decode (mB 265) 23 = .ok (.aload_n 0, 1) := by decide +kernel
theorem f_265_24 : decode (mB 265) 24 = .ok (.iload_n 1, 1) := by decide +kernel
theorem f_265_25 : decode (mB 265) 25 = .ok (.iload_n 2, 1) := by decide +kernel
theorem f_265_26 : decode (mB 265) 26 = .ok (.iload_n 3, 1) := by decide +kernel
theorem f_265_27 : decode (mB 265) 27 = .ok (.iload 5, 2) := by decide +kernel
theorem f_265_29 : decode (mB 265) 29 = .ok (.invokevirtual 279, 3) := by decide +kernel
theorem f_265_32 : decode (mB 265) 32 = .ok (.istore 6, 2) := by decide +kernel
theorem f_265_34 : decode (mB 265) 34 = .ok (.iload 6, 2) := by decide +kernel
theorem f_265_36 : decode (mB 265) 36 = .ok (.iload 4, 2) := by decide +kernel
theorem f_265_38 : decode (mB 265) 38 = .ok (.if_icmp .ge 8, 3) := by decide +kernel
theorem f_265_41 : decode (mB 265) 41 = .ok (.iload 6, 2) := by decide +kernel
theorem f_265_43 : decode (mB 265) 43 = .ok (.goto 5, 3) := by decide +kernel
theorem f_265_46 : decode (mB 265) 46 = .ok (.iload 4, 2) := by decide +kernel
theorem f_265_48 : decode (mB 265) 48 = .ok (.istore 4, 2) := by decide +kernel
theorem f_265_50 : decode (mB 265) 50 = .ok (.iinc 5 1, 3) := by decide +kernel
theorem f_265_53 : decode (mB 265) 53 = .ok (.goto (-40), 3) := by decide +kernel
theorem f_265_56 : decode (mB 265) 56 = .ok (.iload 4, 2) := by decide +kernel
theorem f_265_58 : decode (mB 265) 58 = .ok (.ireturn, 1) := by decide +kernel
theorem f_266_0 : decode (mB 266) 0 = .ok (.iload_n 2, 1) := by decide +kernel
theorem f_266_1 : decode (mB 266) 1 = .ok (.iload 4, 2) := by decide +kernel
theorem f_266_3 : decode (mB 266) 3 = .ok (.isub, 1) := by decide +kernel
theorem f_266_4 : decode (mB 266) 4 = .ok (.bipush 10, 2) := by decide +kernel
theorem f_266_6 : decode (mB 266) 6 = .ok (.isub, 1) := by decide +kernel
theorem f_266_7 : decode (mB 266) 7 = .ok (.istore 5, 2) := by decide +kernel
theorem f_266_9 : decode (mB 266) 9 = .ok (.iload 5, 2) := by decide +kernel
theorem f_266_11 : decode (mB 266) 11 = .ok (.ifCond .ge 9, 3) := by decide +kernel
theorem f_266_14 : decode (mB 266) 14 = .ok (.iload 5, 2) := by decide +kernel
theorem f_266_16 : decode (mB 266) 16 = .ok (.ineg, 1) := by decide +kernel
theorem f_266_17 : decode (mB 266) 17 = .ok (.goto 4, 3) := by decide +kernel
theorem f_266_20 : decode (mB 266) 20 = .ok (.iconst 0, 1) := by decide +kernel
theorem f_266_21 : decode (mB 266) 21 = .ok (.istore 6, 2) := by decide +kernel
theorem f_266_23 : decode (mB 266) 23 = .ok (.iload 5, 2) := by decide +kernel
theorem f_266_25 : decode (mB 266) 25 = .ok (.ifCond .ge 7, 3) := by decide +kernel
theorem f_266_28 : decode (mB 266) 28 = .ok (.iconst 0, 1) := by decide +kernel
theorem f_266_29 : decode (mB 266) 29 = .ok (.goto 17, 3) := by decide +kernel
theorem f_266_32 : decode (mB 266) 32 = .ok (.iload 5, 2) := by decide +kernel
theorem f_266_34 : decode (mB 266) 34 = .ok (.bipush 60, 2) := by decide +kernel
theorem f_266_36 : decode (mB 266) 36 = .ok (.if_icmp .le 8, 3) := by decide +kernel
theorem f_266_39 : decode (mB 266) 39 = .ok (.bipush 60, 2) := by decide +kernel
theorem f_266_41 : decode (mB 266) 41 = .ok (.goto 5, 3) := by decide +kernel
theorem f_266_44 : decode (mB 266) 44 = .ok (.iload 5, 2) := by decide +kernel
theorem f_266_46 : decode (mB 266) 46 = .ok (.istore 5, 2) := by decide +kernel
theorem f_266_48 : decode (mB 266) 48 = .ok (.iload 6, 2) := by decide +kernel
theorem f_266_50 : decode (mB 266) 50 = .ok (.aload_n 0, 1) := by decide +kernel
theorem f_266_51 : decode (mB 266) 51 = .ok (.getfield 50, 3) := by decide +kernel
theorem f_266_54 : decode (mB 266) 54 = .ok (.iload_n 1, 1) := by decide +kernel
theorem f_266_55 : decode (mB 266) 55 = .ok (.iload 5, 2) := by decide +kernel
theorem f_266_57 : decode (mB 266) 57 = .ok (.iload_n 3, 1) := by decide +kernel
theorem f_266_58 : decode (mB 266) 58 = .ok (.iload 4, 2) := by decide +kernel
theorem f_266_60 : decode (mB 266) 60 = .ok (.isub, 1) := by decide +kernel
theorem f_266_61 : decode (mB 266) 61 = .ok (.invokestatic 276, 3) := by decide +kernel
theorem f_266_64 : decode (mB 266) 64 = .ok (.iaload, 1) := by decide +kernel
theorem f_266_65 : decode (mB 266) 65 = .ok (.iadd, 1) := by decide +kernel
theorem f_266_66 : decode (mB 266) 66 = .ok (.ireturn, 1) := by decide +kernel
theorem f_267_0 : decode (mB 267) 0 = .ok (.iload_n 0, 1) := by decide +kernel
theorem f_267_1 : decode (mB 267) 1 = .ok (.iload_n 1, 1) := by decide +kernel
theorem f_267_2 : decode (mB 267) 2 = .ok (.if_icmp .ge 7, 3) := by decide +kernel
theorem f_267_5 : decode (mB 267) 5 = .ok (.iload_n 0, 1) := by decide +kernel
theorem f_267_6 : decode (mB 267) 6 = .ok (.goto 4, 3) := by decide +kernel
theorem f_267_9 : decode (mB 267) 9 = .ok (.iload_n 1, 1) := by decide +kernel
theorem f_267_10 : decode (mB 267) 10 = .ok (.istore_n 2, 1) := by decide +kernel
theorem f_267_11 : decode (mB 267) 11 = .ok (.iload_n 2, 1) := by decide +kernel
theorem f_267_12 : decode (mB 267) 12 = .ok (.bipush 9, 2) := by decide +kernel
theorem f_267_14 : decode (mB 267) 14 = .ok (.if_icmp .ge 7, 3) := by decide +kernel
theorem f_267_17 : decode (mB 267) 17 = .ok (.iload_n 2, 1) := by decide +kernel
theorem f_267_18 : decode (mB 267) 18 = .ok (.goto 5, 3) := by decide +kernel
theorem f_267_21 : decode (mB 267) 21 = .ok (.bipush 9, 2) := by decide +kernel
theorem f_267_23 : decode (mB 267) 23 = .ok (.ireturn, 1) := by decide +kernel
theorem f_268_0 : decode (mB 268) 0 = .ok (.iload_n 1, 1) := by decide +kernel
theorem f_268_1 : decode (mB 268) 1 = .ok (.iload_n 2, 1) := by decide +kernel
theorem f_268_2 : decode (mB 268) 2 = .ok (.iload_n 3, 1) := by decide +kernel
theorem f_268_3 : decode (mB 268) 3 = .ok (.iload 4, 2) := by decide +kernel
theorem f_268_5 : decode (mB 268) 5 = .ok (.invokestatic 289, 3) := by decide +kernel
theorem f_268_8 : decode (mB 268) 8 = .ok (.ifCond .eq 7, 3) := by decide +kernel
theorem f_268_11 : decode (mB 268) 11 = .ok (.iload_n 3, 1) := by decide +kernel
theorem f_268_12 : decode (mB 268) 12 = .ok (.ifCond .ne 10, 3) := by decide +kernel
theorem f_268_15 : decode (mB 268) 15 = .ok (.aload_n 0, 1) := by decide +kernel
theorem f_268_16 : decode (mB 268) 16 = .ok (.ldc 77, 2) := by decide +kernel
theorem f_268_18 : decode (mB 268) 18 = .ok (.invokevirtual 78, 3) := by decide +kernel
theorem f_268_21 : decode (mB 268) 21 = .ok (.ireturn, 1) := by decide +kernel
theorem f_268_22 : decode (mB 268) 22 = .ok (.iload 5, 2) := by decide +kernel
theorem f_268_24 : decode (mB 268) 24 = .ok (.iload 4, 2) := by decide +kernel
theorem f_268_26 : decode (mB 268) 26 = .ok (.bipush 100, 2) := by decide +kernel
theorem f_268_28 : decode (mB 268) 28 = .ok (.idiv, 1) := by decide +kernel
theorem f_268_29 : decode (mB 268) 29 = .ok (.if_icmp .eq 20, 3) := by decide +kernel
theorem f_268_32 : decode (mB 268) 32 = .ok (.iload 5, 2) := by decide +kernel
theorem f_268_34 : decode (mB 268) 34 = .ok (.iload 4, 2) := by decide +kernel
theorem f_268_36 : decode (mB 268) 36 = .ok (.bipush 100, 2) := by decide +kernel
theorem f_268_38 : decode (mB 268) 38 = .ok (.irem, 1) := by decide +kernel
theorem f_268_39 : decode (mB 268) 39 = .ok (.if_icmp .eq 10, 3) := by decide +kernel
theorem f_268_42 : decode (mB 268) 42 = .ok (.aload_n 0, 1) := by decide +kernel
theorem f_268_43 : decode (mB 268) 43 = .ok (.ldc 131, 2) := by decide +kernel
theorem f_268_45 : decode (mB 268) 45 = .ok (.invokevirtual 78, 3) := by decide +kernel
theorem f_268_48 : decode (mB 268) 48 = .ok (.ireturn, 1) := by decide +kernel
theorem f_268_49 : decode (mB 268) 49 = .ok (.aload_n 0, 1) := by decide +kernel
theorem f_268_50 : decode (mB 268) 50 = .ok (.iload_n 3, 1) := by decide +kernel
theorem f_268_51 : decode (mB 268) 51 = .ok (.iconst 1, 1) := by decide +kernel
theorem f_268_52 : decode (mB 268) 52 = .ok (.isub, 1) := by decide +kernel
theorem f_268_53 : decode (mB 268) 53 = .ok (.iload_n 2, 1) := by decide +kernel
theorem f_268_54 : decode (mB 268) 54 = .ok (.iload 4, 2) := by decide +kernel
theorem f_268_56 : decode (mB 268) 56 = .ok (.bipush 100, 2) := by decide +kernel
theorem f_268_58 : decode (mB 268) 58 = .ok (.idiv, 1) := by decide +kernel
theorem f_268_59 : decode (mB 268) 59 = .ok (.iload 4, 2) := by decide +kernel
theorem f_268_61 : decode (mB 268) 61 = .ok (.bipush 100, 2) := by decide +kernel
theorem f_268_63 : decode (mB 268) 63 = .ok (.irem, 1) := by decide +kernel
theorem f_268_64 : decode (mB 268) 64 = .ok (.invokevirtual 293, 3) := by decide +kernel
theorem f_268_67 : decode (mB 268) 67 = .ok (.iconst 0, 1) := by decide +kernel
theorem f_268_68 : decode (mB 268) 68 = .ok (.istore 6, 2) := by decide +kernel
theorem f_268_70 : decode (mB 268) 70 = .ok (.aload_n 0, 1) := by decide +kernel
theorem f_268_71 : decode (mB 268) 71 = .ok (.iload_n 3, 1) := by decide +kernel
theorem f_268_72 : decode (mB 268) 72 = .ok (.iconst 1, 1) := by decide +kernel
theorem f_268_73 : decode (mB 268) 73 = .ok (.isub, 1) := by decide +kernel
theorem f_268_74 : decode (mB 268) 74 = .ok (.iload_n 1, 1) := by decide +kernel
theorem f_268_75 : decode (mB 268) 75 = .ok (.iload 5, 2) := by decide +kernel
theorem f_268_77 : decode (mB 268) 77 = .ok (.iadd, 1) := by decide +kernel
theorem f_268_78 : decode (mB 268) 78 = .ok (.iload_n 2, 1) := by decide +kernel
theorem f_268_79 : decode (mB 268) 79 = .ok (.iload 6, 2) := by decide +kernel
theorem f_268_81 : decode (mB 268) 81 = .ok (.invokevirtual 279, 3) := by decide +kernel
theorem f_268_84 : decode (mB 268) 84 = .ok (.aload_n 0, 1) := by decide +kernel
theorem f_268_85 : decode (mB 268) 85 = .ok (.iload_n 3, 1) := by decide +kernel
theorem f_268_86 : decode (mB 268) 86 = .ok (.iconst 1, 1) := by decide +kernel
theorem f_268_87 : decode (mB 268) 87 = .ok (.isub, 1) := by decide +kernel
theorem f_268_88 : decode (mB 268) 88 = .ok (.iload_n 1, 1) := by decide +kernel
theorem f_268_89 : decode (mB 268) 89 = .ok (.iload 5, 2) := by decide +kernel
theorem f_268_91 : decode (mB 268) 91 = .ok (.iadd, 1) := by decide +kernel
theorem f_268_92 : decode (mB 268) 92 = .ok (.iload_n 2, 1) := by decide +kernel
theorem f_268_93 : decode (mB 268) 93 = .ok (.invokevirtual 286, 3) := by decide +kernel
theorem f_268_96 : decode (mB 268) 96 = .ok (.if_icmp .eq 9, 3) := by decide +kernel
theorem f_268_99 : decode (mB 268) 99 = .ok (.iinc 6 1, 3) := by decide +kernel
theorem f_268_102 : decode (mB 268) 102 = .ok (.goto (-32), 3) := by decide +kernel
theorem f_268_105 : decode (mB 268) 105 = .ok (.iload 6, 2) := by decide +kernel
theorem f_268_107 : decode (mB 268) 107 = .ok (.ireturn, 1) := by decide +kernel
theorem f_269_0 : decode (mB 269) 0 = .ok (.iload_n 1, 1) := by decide +kernel
theorem f_269_1 : decode (mB 269) 1 = .ok (.iconst 0, 1) := by decide +kernel
theorem f_269_2 : decode (mB 269) 2 = .ok (.bipush 60, 2) := by decide +kernel
theorem f_269_4 : decode (mB 269) 4 = .ok (.invokestatic 69, 3) := by decide +kernel
theorem f_269_7 : decode (mB 269) 7 = .ok (.ifCond .eq 32, 3) := by decide +kernel
theorem f_269_10 : decode (mB 269) 10 = .ok (.iload_n 2, 1) := by decide +kernel
theorem f_269_11 : decode (mB 269) 11 = .ok (.iconst 0, 1) := by decide +kernel
theorem f_269_12 : decode (mB 269) 12 = .ok (.bipush 60, 2) := by decide +kernel
theorem f_269_14 : decode (mB 269) 14 = .ok (.invokestatic 69, 3) := by decide +kernel
theorem f_269_17 : decode (mB 269) 17 = .ok (.ifCond .eq 22, 3) := by decide +kernel
theorem f_269_20 : decode (mB 269) 20 = .ok (.iload_n 3, 1) := by decide +kernel
theorem f_269_21 : decode (mB 269) 21 = .ok (.iconst 0, 1) := by decide +kernel
theorem f_269_22 : decode (mB 269) 22 = .ok (.sipush 999, 3) := by decide +kernel
theorem f_269_25 : decode (mB 269) 25 = .ok (.invokestatic 69, 3) := by decide +kernel
theorem f_269_28 : decode (mB 269) 28 = .ok (.ifCond .eq 11, 3) := by decide +kernel
theorem f_269_31 : decode (mB 269) 31 = .ok (.iload 4, 2) := by decide +kernel
theorem f_269_33 : decode (mB 269) 33 = .ok (.invokestatic 273, 3) := by decide +kernel
theorem f_269_36 : decode (mB 269) 36 = .ok (.ifCond .ne 10, 3) := by decide +kernel
theorem f_269_39 : decode (mB 269) 39 = .ok (.aload_n 0, 1) := by decide +kernel
theorem f_269_40 : decode (mB 269) 40 = .ok (.ldc 77, 2) := by decide +kernel
theorem f_269_42 : decode (mB 269) 42 = .ok (.invokevirtual 78, 3) := by decide +kernel
theorem f_269_45 : decode (mB 269) 45 = .ok (.ireturn, 1) := by decide +kernel
theorem f_269_46 : decode (mB 269) 46 = .ok (.aload_n 0, 1) := by decide +kernel
theorem f_269_47 : decode (mB 269) 47 = .ok (.getfield 53, 3) := by decide +kernel
theorem f_269_50 : decode (mB 269) 50 = .ok (.iload 4, 2) := by decide +kernel
theorem f_269_52 : decode (mB 269) 52 = .ok (.iaload, 1) := by decide +kernel
theorem f_269_53 : decode (mB 269) 53 = .ok (.ifCond .ne 10, 3) := by decide +kernel
theorem f_269_56 : decode (mB 269) 56 = .ok (.aload_n 0, 1) := by decide +kernel
theorem f_269_57 : decode (mB 269) 57 = .ok (.ldc 139, 2) := by decide +kernel
theorem f_269_59 : decode (mB 269) 59 = .ok (.invokevirtual 78, 3) := by decide +kernel
theorem f_269_62 : decode (mB 269) 62 = .ok (.ireturn, 1) := by decide +kernel
theorem f_269_63 : decode (mB 269) 63 = .ok (.iload_n 1, 1) := by decide +kernel
theorem f_269_64 : decode (mB 269) 64 = .ok (.istore 5, 2) := by decide +kernel
theorem f_269_66 : decode (mB 269) 66 = .ok (.iload_n 2, 1) := by decide +kernel
theorem f_269_67 : decode (mB 269) 67 = .ok (.istore 6, 2) := by decide +kernel
theorem f_269_69 : decode (mB 269) 69 = .ok (.iconst 0, 1) := by decide +kernel
theorem f_269_70 : decode (mB 269) 70 = .ok (.istore 7, 2) := by decide +kernel
theorem f_269_72 : decode (mB 269) 72 = .ok (.iconst 0, 1) := by decide +kernel
theorem f_269_73 : decode (mB 269) 73 = .ok (.istore 8, 2) := by decide +kernel
theorem f_269_75 : decode (mB 269) 75 = .ok (.iload 8, 2) := by decide +kernel
theorem f_269_77 : decode (mB 269) 77 = .ok (.iconst 1, 1) := by decide +kernel
theorem f_269_78 : decode (mB 269) 78 = .ok (.iadd, 1) := by decide +kernel
theorem f_269_79 : decode (mB 269) 79 = .ok (.aload_n 0, 1) := by decide +kernel
theorem f_269_80 : decode (mB 269) 80 = .ok (.getfield 56, 3) := by decide +kernel
theorem f_269_83 : decode (mB 269) 83 = .ok (.iload 4, 2) := by decide +kernel
theorem f_269_85 : decode (mB 269) 85 = .ok (.iaload, 1) := by decide +kernel
theorem f_269_86 : decode (mB 269) 86 = .ok (.if_icmp .ge 141, 3) := by decide +kernel
theorem f_269_89 : decode (mB 269) 89 = .ok (.aload_n 0, 1) := by decide +kernel
theorem f_269_90 : decode (mB 269) 90 = .ok (.getfield 59, 3) := by decide +kernel
theorem f_269_93 : decode (mB 269) 93 = .ok (.bipush 20, 2) := by decide +kernel
theorem f_269_95 : decode (mB 269) 95 = .ok (.iload 4, 2) := by decide +kernel
theorem f_269_97 : decode (mB 269) 97 = .ok (.imul, 1) := by decide +kernel
theorem f_269_98 : decode (mB 269) 98 = .ok (.iload 8, 2) := by decide +kernel
theorem f_269_100 : decode (mB 269) 100 = .ok (.iadd, 1) := by decide +kernel
theorem f_269_101 : decode (mB 269) 101 = .ok (.iaload, 1) := by decide +kernel
theorem f_269_102 : decode (mB 269) 102 = .ok (.istore 9, 2) := by decide +kernel
theorem f_269_104 : decode (mB 269) 104 = .ok (.aload_n 0, 1) := by decide +kernel
theorem f_269_105 : decode (mB 269) 105 = .ok (.getfield 59, 3) := by decide +kernel
theorem f_269_108 : decode (mB 269) 108 = .ok (.bipush 20, 2) := by decide +kernel
theorem f_269_110 : decode (mB 269) 110 = .ok (.iload 4, 2) := by decide +kernel
theorem f_269_112 : decode (mB 269) 112 = .ok (.imul, 1) := by decide +kernel
theorem f_269_113 : decode (mB 269) 113 = .ok (.iload 8, 2) := by decide +kernel
theorem f_269_115 : decode (mB 269) 115 = .ok (.iadd, 1) := by decide +kernel
theorem f_269_116 : decode (mB 269) 116 = .ok (.iconst 1, 1) := by decide +kernel
theorem f_269_117 : decode (mB 269) 117 = .ok (.iadd, 1) := by decide +kernel
theorem f_269_118 : decode (mB 269) 118 = .ok (.iaload, 1) := by decide +kernel
theorem f_269_119 : decode (mB 269) 119 = .ok (.istore 10, 2) := by decide +kernel
theorem f_269_121 : decode (mB 269) 121 = .ok (.iload 9, 2) := by decide +kernel
theorem f_269_123 : decode (mB 269) 123 = .ok (.iconst 0, 1) := by decide +kernel
theorem f_269_124 : decode (mB 269) 124 = .ok (.bipush 30, 2) := by decide +kernel
theorem f_269_126 : decode (mB 269) 126 = .ok (.invokestatic 69, 3) := by decide +kernel
theorem f_269_129 : decode (mB 269) 129 = .ok (.ifCond .ne 6, 3) := by decide +kernel
theorem f_269_132 : decode (mB 269) 132 = .ok (.iload 8, 2) := by decide +kernel
theorem f_269_134 : decode (mB 269) 134 = .ok (.ireturn, 1) := by decide +kernel
theorem f_269_135 : decode (mB 269) 135 = .ok (.iload 10, 2) := by decide +kernel
theorem f_269_137 : decode (mB 269) 137 = .ok (.iconst 0, 1) := by decide +kernel
theorem f_269_138 : decode (mB 269) 138 = .ok (.iload 5, 2) := by decide +kernel
theorem f_269_140 : decode (mB 269) 140 = .ok (.iload 9, 2) := by decide +kernel
theorem f_269_142 : decode (mB 269) 142 = .ok (.iadd, 1) := by decide +kernel
theorem f_269_143 : decode (mB 269) 143 = .ok (.iload 6, 2) := by decide +kernel
theorem f_269_145 : decode (mB 269) 145 = .ok (.invokestatic 283, 3) := by decide +kernel
theorem f_269_148 : decode (mB 269) 148 = .ok (.invokestatic 69, 3) := by decide +kernel
theorem f_269_151 : decode (mB 269) 151 = .ok (.ifCond .ne 8, 3) := by decide +kernel
theorem f_269_154 : decode (mB 269) 154 = .ok (.iload 8, 2) := by decide +kernel
theorem f_269_156 : decode (mB 269) 156 = .ok (.iconst 1, 1) := by decide +kernel
theorem f_269_157 : decode (mB 269) 157 = .ok (.iadd, 1) := by decide +kernel
theorem f_269_158 : decode (mB 269) 158 = .ok (.ireturn, 1) := by decide +kernel
theorem f_269_159 : decode (mB 269) 159 = .ok (.iload 5, 2) := by decide +kernel
theorem f_269_161 : decode (mB 269) 161 = .ok (.iload 9, 2) := by decide +kernel
theorem f_269_163 : decode (mB 269) 163 = .ok (.iadd, 1) := by decide +kernel
theorem f_269_164 : decode (mB 269) 164 = .ok (.iload 10, 2) := by decide +kernel
theorem f_269_166 : decode (mB 269) 166 = .ok (.isub, 1) := by decide +kernel
theorem f_269_167 : decode (mB 269) 167 = .ok (.bipush 10, 2) := by decide +kernel
theorem f_269_169 : decode (mB 269) 169 = .ok (.isub, 1) := by decide +kernel
theorem f_269_170 : decode (mB 269) 170 = .ok (.istore 11, 2) := by decide +kernel
theorem f_269_172 : decode (mB 269) 172 = .ok (.iload 7, 2) := by decide +kernel
theorem f_269_174 : decode (mB 269) 174 = .ok (.iload 11, 2) := by decide +kernel
theorem f_269_176 : decode (mB 269) 176 = .ok (.ifCond .ge 9, 3) := by decide +kernel
theorem f_269_179 : decode (mB 269) 179 = .ok (.iload 11, 2) := by decide +kernel
theorem f_269_181 : decode (mB 269) 181 = .ok (.ineg, 1) := by decide +kernel
theorem f_269_182 : decode (mB 269) 182 = .ok (.goto 4, 3) := by decide +kernel
theorem f_269_185 : decode (mB 269) 185 = .ok (.iconst 0, 1) := by decide +kernel
theorem f_269_186 : decode (mB 269) 186 = .ok (.iadd, 1) := by decide +kernel
theorem f_269_187 : decode (mB 269) 187 = .ok (.istore 7, 2) := by decide +kernel
theorem f_269_189 : decode (mB 269) 189 = .ok (.iload 11, 2) := by decide +kernel
theorem f_269_191 : decode (mB 269) 191 = .ok (.ifCond .ge 7, 3) := by decide +kernel
theorem f_269_194 : decode (mB 269) 194 = .ok (.iconst 0, 1) := by decide +kernel
theorem f_269_195 : decode (mB 269) 195 = .ok (.goto 17, 3) := by decide +kernel
theorem f_269_198 : decode (mB 269) 198 = .ok (.iload 11, 2) := by decide +kernel
theorem f_269_200 : decode (mB 269) 200 = .ok (.bipush 60, 2) := by decide +kernel
theorem f_269_202 : decode (mB 269) 202 = .ok (.if_icmp .le 8, 3) := by decide +kernel
theorem f_269_205 : decode (mB 269) 205 = .ok (.bipush 60, 2) := by decide +kernel
theorem f_269_207 : decode (mB 269) 207 = .ok (.goto 5, 3) := by decide +kernel
theorem f_269_210 : decode (mB 269) 210 = .ok (.iload 11, 2) := by decide +kernel
theorem f_269_212 : decode (mB 269) 212 = .ok (.istore 5, 2) := by decide +kernel
theorem f_269_214 : decode (mB 269) 214 = .ok (.iload 6, 2) := by decide +kernel
theorem f_269_216 : decode (mB 269) 216 = .ok (.iload 10, 2) := by decide +kernel
theorem f_269_218 : decode (mB 269) 218 = .ok (.isub, 1) := by decide +kernel
theorem f_269_219 : decode (mB 269) 219 = .ok (.istore 6, 2) := by decide +kernel
theorem f_269_221 : decode (mB 269) 221 = .ok (.iinc 8 2, 3) := by decide +kernel
theorem f_269_224 : decode (mB 269) 224 = .ok (.goto (-149), 3) := by decide +kernel
theorem f_269_227 : decode (mB 269) 227 = .ok (.iload 7, 2) := by decide +kernel
theorem f_269_229 : decode (mB 269) 229 = .ok (.iconst 2, 1) := by decide +kernel
theorem f_269_230 : decode (mB 269) 230 = .ok (.iload 6, 2) := by decide +kernel
theorem f_269_232 : decode (mB 269) 232 = .ok (.imul, 1) := by decide +kernel
theorem f_269_233 : decode (mB 269) 233 = .ok (.iadd, 1) := by decide +kernel
theorem f_269_234 : decode (mB 269) 234 = .ok (.iload_n 3, 1) := by decide +kernel
theorem f_269_235 : decode (mB 269) 235 = .ok (.if_icmp .le 13, 3) := by decide +kernel
theorem f_269_238 : decode (mB 269) 238 = .ok (.aload_n 0, 1) := by decide +kernel
theorem f_269_239 : decode (mB 269) 239 = .ok (.getfield 56, 3) := by decide +kernel
theorem f_269_242 : decode (mB 269) 242 = .ok (.iload 4, 2) := by decide +kernel
theorem f_269_244 : decode (mB 269) 244 = .ok (.iaload, 1) := by decide +kernel
theorem f_269_245 : decode (mB 269) 245 = .ok (.goto 4, 3) := by decide +kernel
theorem f_269_248 : decode (mB 269) 248 = .ok (.iconst (-1), 1) := by decide +kernel
theorem f_269_249 : decode (mB 269) 249 = .ok (.ireturn, 1) := by decide +kernel
theorem f_270_0 : decode (mB 270) 0 = .ok (.iload_n 1, 1) := by decide +kernel
theorem f_270_1 : decode (mB 270) 1 = .ok (.invokestatic 273, 3) := by decide +kernel
theorem f_270_4 : decode (mB 270) 4 = .ok (.ifCond .eq 25, 3) := by decide +kernel
theorem f_270_7 : decode (mB 270) 7 = .ok (.iload_n 2, 1) := by decide +kernel
theorem f_270_8 : decode (mB 270) 8 = .ok (.ifCond .eq 28, 3) := by decide +kernel
theorem f_270_11 : decode (mB 270) 11 = .ok (.iload_n 2, 1) := by decide +kernel
theorem f_270_12 : decode (mB 270) 12 = .ok (.bipush 8, 2) := by decide +kernel
theorem f_270_14 : decode (mB 270) 14 = .ok (.if_icmp .eq 22, 3) := by decide +kernel
theorem f_270_17 : decode (mB 270) 17 = .ok (.iload_n 2, 1) := by decide +kernel
theorem f_270_18 : decode (mB 270) 18 = .ok (.bipush 16, 2) := by decide +kernel
theorem f_270_20 : decode (mB 270) 20 = .ok (.if_icmp .eq 16, 3) := by decide +kernel
theorem f_270_23 : decode (mB 270) 23 = .ok (.iload_n 2, 1) := by decide +kernel
theorem f_270_24 : decode (mB 270) 24 = .ok (.bipush 32, 2) := by decide +kernel
theorem f_270_26 : decode (mB 270) 26 = .ok (.if_icmp .eq 10, 3) := by decide +kernel
theorem f_270_29 : decode (mB 270) 29 = .ok (.aload_n 0, 1) := by decide +kernel
theorem f_270_30 : decode (mB 270) 30 = .ok (.ldc 77, 2) := by decide +kernel
theorem f_270_32 : decode (mB 270) 32 = .ok (.invokevirtual 78, 3) := by decide +kernel
theorem f_270_35 : decode (mB 270) 35 = .ok (.ireturn, 1) := by decide +kernel
theorem f_270_36 : decode (mB 270) 36 = .ok (.iload_n 3, 1) := by decide +kernel
theorem f_270_37 : decode (mB 270) 37 = .ok (.ifCond .ge 10, 3) := by decide +kernel
theorem f_270_40 : decode (mB 270) 40 = .ok (.aload_n 0, 1) := by decide +kernel
theorem f_270_41 : decode (mB 270) 41 = .ok (.ldc 135, 2) := by decide +kernel
theorem f_270_43 : decode (mB 270) 43 = .ok (.invokevirtual 78, 3) := by decide +kernel
theorem f_270_46 : decode (mB 270) 46 = .ok (.ireturn, 1) := by decide +kernel
theorem f_270_47 : decode (mB 270) 47 = .ok (.iload_n 3, 1) := by decide +kernel
theorem f_270_48 : decode (mB 270) 48 = .ok (.bipush 20, 2) := by decide +kernel
theorem f_270_50 : decode (mB 270) 50 = .ok (.if_icmp .le 10, 3) := by decide +kernel
theorem f_270_53 : decode (mB 270) 53 = .ok (.aload_n 0, 1) := by decide +kernel
theorem f_270_54 : decode (mB 270) 54 = .ok (.ldc 77, 2) := by decide +kernel
theorem f_270_56 : decode (mB 270) 56 = .ok (.invokevirtual 78, 3) := by decide +kernel
theorem f_270_59 : decode (mB 270) 59 = .ok (.ireturn, 1) := by decide +kernel
theorem f_270_60 : decode (mB 270) 60 = .ok (.aload_n 0, 1) := by decide +kernel
theorem f_270_61 : decode (mB 270) 61 = .ok (.getfield 53, 3) := by decide +kernel
theorem f_270_64 : decode (mB 270) 64 = .ok (.iload_n 1, 1) := by decide +kernel
theorem f_270_65 : decode (mB 270) 65 = .ok (.iload_n 2, 1) := by decide +kernel
theorem f_270_66 : decode (mB 270) 66 = .ok (.iastore, 1) := by decide +kernel
theorem f_270_67 : decode (mB 270) 67 = .ok (.aload_n 0, 1) := by decide +kernel
theorem f_270_68 : decode (mB 270) 68 = .ok (.getfield 56, 3) := by decide +kernel
theorem f_270_71 : decode (mB 270) 71 = .ok (.iload_n 1, 1) := by decide +kernel
theorem f_270_72 : decode (mB 270) 72 = .ok (.iload_n 2, 1) := by decide +kernel
theorem f_270_73 : decode (mB 270) 73 = .ok (.ifCond .ne 7, 3) := by decide +kernel
theorem f_270_76 : decode (mB 270) 76 = .ok (.iconst 0, 1) := by decide +kernel
theorem f_270_77 : decode (mB 270) 77 = .ok (.goto 4, 3) := by decide +kernel
theorem f_270_80 : decode (mB 270) 80 = .ok (.iload_n 3, 1) := by decide +kernel
theorem f_270_81 : decode (mB 270) 81 = .ok (.iastore, 1) := by decide +kernel
theorem f_270_82 : decode (mB 270) 82 = .ok (.iconst 0, 1) := by decide +kernel
theorem f_270_83 : decode (mB 270) 83 = .ok (.istore 4, 2) := by decide +kernel
theorem f_270_85 : decode (mB 270) 85 = .ok (.iload 4, 2) := by decide +kernel
theorem f_270_87 : decode (mB 270) 87 = .ok (.bipush 20, 2) := by decide +kernel
theorem f_270_89 : decode (mB 270) 89 = .ok (.if_icmp .ge 22, 3) := by decide +kernel
theorem f_270_92 : decode (mB 270) 92 = .ok (.aload_n 0, 1) := by decide +kernel
theorem f_270_93 : decode (mB 270) 93 = .ok (.getfield 59, 3) := by decide +kernel
theorem f_270_96 : decode (mB 270) 96 = .ok (.bipush 20, 2) := by decide +kernel
theorem f_270_98 : decode (mB 270) 98 = .ok (.iload_n 1, 1) := by decide +kernel
theorem f_270_99 : decode (mB 270) 99 = .ok (.imul, 1) := by decide +kernel
theorem f_270_100 : decode (mB 270) 100 = .ok (.iload 4, 2) := by decide +kernel
theorem f_270_102 : decode (mB 270) 102 = .ok (.iadd, 1) := by decide +kernel
theorem f_270_103 : decode (mB 270) 103 = .ok (.iconst 0, 1) := by decide +kernel
theorem f_270_104 : decode (mB 270) 104 = .ok (.iastore, 1) := by decide +kernel
theorem f_270_105 : decode (mB 270) 105 = .ok (.iinc 4 1, 3) := by decide +kernel
theorem f_270_108 : decode (mB 270) 108 = .ok (.goto (-23), 3) := by decide +kernel
theorem f_270_111 : decode (mB 270) 111 = .ok (.aload_n 0, 1) := by decide +kernel
theorem f_270_112 : decode (mB 270) 112 = .ok (.getfield 56, 3) := by decide +kernel
theorem f_270_115 : decode (mB 270) 115 = .ok (.iload_n 1, 1) := by decide +kernel
theorem f_270_116 : decode (mB 270) 116 = .ok (.iaload, 1) := by decide +kernel
theorem f_270_117 : decode (mB 270) 117 = .ok (.ireturn, 1) := by decide +kernel
theorem f_271_0 : decode (mB 271) 0 = .ok (.iload_n 1, 1) := by decide +kernel
theorem f_271_1 : decode (mB 271) 1 = .ok (.invokestatic 273, 3) := by decide +kernel
theorem f_271_4 : decode (mB 271) 4 = .ok (.ifCond .ne 10, 3) := by decide +kernel
theorem f_271_7 : decode (mB 271) 7 = .ok (.aload_n 0, 1) := by decide +kernel
theorem f_271_8 : decode (mB 271) 8 = .ok (.ldc 77, 2) := by decide +kernel
theorem f_271_10 : decode (mB 271) 10 = .ok (.invokevirtual 78, 3) := by decide +kernel
theorem f_271_13 : decode (mB 271) 13 = .ok (.ireturn, 1) := by decide +kernel
theorem f_271_14 : decode (mB 271) 14 = .ok (.aload_n 0, 1) := by decide +kernel
theorem f_271_15 : decode (mB 271) 15 = .ok (.getfield 53, 3) := by decide +kernel
theorem f_271_18 : decode (mB 271) 18 = .ok (.iload_n 1, 1) := by decide +kernel
theorem f_271_19 : decode (mB 271) 19 = .ok (.iaload, 1) := by decide +kernel
theorem f_271_20 : decode (mB 271) 20 = .ok (.ifCond .ne 10, 3) := by decide +kernel
theorem f_271_23 : decode (mB 271) 23 = .ok (.aload_n 0, 1) := by decide +kernel
theorem f_271_24 : decode (mB 271) 24 = .ok (.ldc 139, 2) := by decide +kernel
theorem f_271_26 : decode (mB 271) 26 = .ok (.invokevirtual 78, 3) := by decide +kernel
theorem f_271_29 : decode (mB 271) 29 = .ok (.ireturn, 1) := by decide +kernel
theorem f_271_30 : decode (mB 271) 30 = .ok (.iload_n 2, 1) := by decide +kernel
theorem f_271_31 : decode (mB 271) 31 = .ok (.iconst 0, 1) := by decide +kernel
theorem f_271_32 : decode (mB 271) 32 = .ok (.aload_n 0, 1) := by decide +kernel
theorem f_271_33 : decode (mB 271) 33 = .ok (.getfield 56, 3) := by decide +kernel
theorem f_271_36 : decode (mB 271) 36 = .ok (.iload_n 1, 1) := by decide +kernel
theorem f_271_37 : decode (mB 271) 37 = .ok (.iaload, 1) := by decide +kernel
theorem f_271_38 : decode (mB 271) 38 = .ok (.iconst 1, 1) := by decide +kernel
theorem f_271_39 : decode (mB 271) 39 = .ok (.isub, 1) := by decide +kernel
theorem f_271_40 : decode (mB 271) 40 = .ok (.invokestatic 69, 3) := by decide +kernel
theorem f_271_43 : decode (mB 271) 43 = .ok (.ifCond .ne 10, 3) := by decide +kernel
theorem f_271_46 : decode (mB 271) 46 = .ok (.aload_n 0, 1) := by decide +kernel
theorem f_271_47 : decode (mB 271) 47 = .ok (.ldc 77, 2) := by decide +kernel
theorem f_271_49 : decode (mB 271) 49 = .ok (.invokevirtual 78, 3) := by decide +kernel
theorem f_271_52 : decode (mB 271) 52 = .ok (.ireturn, 1) := by decide +kernel
theorem f_271_53 : decode (mB 271) 53 = .ok (.aload_n 0, 1) := by decide +kernel
theorem f_271_54 : decode (mB 271) 54 = .ok (.getfield 59, 3) := by decide +kernel
theorem f_271_57 : decode (mB 271) 57 = .ok (.bipush 20, 2) := by decide +kernel
theorem f_271_59 : decode (mB 271) 59 = .ok (.iload_n 1, 1) := by decide +kernel
theorem f_271_60 : decode (mB 271) 60 = .ok (.imul, 1) := by decide +kernel
theorem f_271_61 : decode (mB 271) 61 = .ok (.iload_n 2, 1) := by decide +kernel
theorem f_271_62 : decode (mB 271) 62 = .ok (.iadd, 1) := by decide +kernel
theorem f_271_63 : decode (mB 271) 63 = .ok (.aload_n 0, 1) := by decide +kernel
theorem f_271_64 : decode (mB 271) 64 = .ok (.getfield 53, 3) := by decide +kernel
theorem f_271_67 : decode (mB 271) 67 = .ok (.iload_n 1, 1) := by decide +kernel
theorem f_271_68 : decode (mB 271) 68 = .ok (.iaload, 1) := by decide +kernel
theorem f_271_69 : decode (mB 271) 69 = .ok (.bipush 8, 2) := by decide +kernel
theorem f_271_71 : decode (mB 271) 71 = .ok (.if_icmp .ne 8, 3) := by decide +kernel
theorem f_271_74 : decode (mB 271) 74 = .ok (.iload_n 3, 1) := by decide +kernel
theorem f_271_75 : decode (mB 271) 75 = .ok (.i2b, 1) := by decide +kernel
theorem f_271_76 : decode (mB 271) 76 = .ok (.goto 20, 3) := by decide +kernel
theorem f_271_79 : decode (mB 271) 79 = .ok (.aload_n 0, 1) := by decide +kernel
theorem f_271_80 : decode (mB 271) 80 = .ok (.getfield 53, 3) := by decide +kernel
theorem f_271_83 : decode (mB 271) 83 = .ok (.iload_n 1, 1) := by decide +kernel
theorem f_271_84 : decode (mB 271) 84 = .ok (.iaload, 1) := by decide +kernel
theorem f_271_85 : decode (mB 271) 85 = .ok (.bipush 16, 2) := by decide +kernel
theorem f_271_87 : decode (mB 271) 87 = .ok (.if_icmp .ne 8, 3) := by decide +kernel
theorem f_271_90 : decode (mB 271) 90 = .ok (.iload_n 3, 1) := by decide +kernel
theorem f_271_91 : decode (mB 271) 91 = .ok (.i2s, 1) := by decide +kernel
theorem f_271_92 : decode (mB 271) 92 = .ok (.goto 4, 3) := by decide +kernel
theorem f_271_95 : decode (mB 271) 95 = .ok (.iload_n 3, 1) := by decide +kernel
theorem f_271_96 : decode (mB 271) 96 = .ok (.iastore, 1) := by decide +kernel
theorem f_271_97 : decode (mB 271) 97 = .ok (.iconst 0, 1) := by decide +kernel
theorem f_271_98 : decode (mB 271) 98 = .ok (.ireturn, 1) := by decide +kernel
theorem f_272_0 : decode (mB 272) 0 = .ok (.iload_n 1, 1) := by decide +kernel
theorem f_272_1 : decode (mB 272) 1 = .ok (.invokestatic 273, 3) := by decide +kernel
theorem f_272_4 : decode (mB 272) 4 = .ok (.ifCond .eq 10, 3) := by decide +kernel
theorem f_272_7 : decode (mB 272) 7 = .ok (.iload_n 3, 1) := by decide +kernel
theorem f_272_8 : decode (mB 272) 8 = .ok (.invokestatic 273, 3) := by decide +kernel
theorem f_272_11 : decode (mB 272) 11 = .ok (.ifCond .ne 10, 3) := by decide +kernel
theorem f_272_14 : decode (mB 272) 14 = .ok (.aload_n 0, 1) := by decide +kernel
theorem f_272_15 : decode (mB 272) 15 = .ok (.ldc 77, 2) := by decide +kernel
theorem f_272_17 : decode (mB 272) 17 = .ok (.invokevirtual 78, 3) := by decide +kernel
theorem f_272_20 : decode (mB 272) 20 = .ok (.ireturn, 1) := by decide +kernel
theorem f_272_21 : decode (mB 272) 21 = .ok (.aload_n 0, 1) := by decide +kernel
theorem f_272_22 : decode (mB 272) 22 = .ok (.getfield 53, 3) := by decide +kernel
theorem f_272_25 : decode (mB 272) 25 = .ok (.iload_n 1, 1) := by decide +kernel
theorem f_272_26 : decode (mB 272) 26 = .ok (.iaload, 1) := by decide +kernel
theorem f_272_27 : decode (mB 272) 27 = .ok (.ifCond .eq 12, 3) := by decide +kernel
theorem f_272_30 : decode (mB 272) 30 = .ok (.aload_n 0, 1) := by decide +kernel
theorem f_272_31 : decode (mB 272) 31 = .ok (.getfield 53, 3) := by decide +kernel
theorem f_272_34 : decode (mB 272) 34 = .ok (.iload_n 3, 1) := by decide +kernel
theorem f_272_35 : decode (mB 272) 35 = .ok (.iaload, 1) := by decide +kernel
theorem f_272_36 : decode (mB 272) 36 = .ok (.ifCond .ne 10, 3) := by decide +kernel
theorem f_272_39 : decode (mB 272) 39 = .ok (.aload_n 0, 1) := by decide +kernel
theorem f_272_40 : decode (mB 272) 40 = .ok (.ldc 139, 2) := by decide +kernel
theorem f_272_42 : decode (mB 272) 42 = .ok (.invokevirtual 78, 3) := by decide +kernel
theorem f_272_45 : decode (mB 272) 45 = .ok (.ireturn, 1) := by decide +kernel
theorem f_272_46 : decode (mB 272) 46 = .ok (.aload_n 0, 1) := by decide +kernel
theorem f_272_47 : decode (mB 272) 47 = .ok (.getfield 53, 3) := by decide +kernel
theorem f_272_50 : decode (mB 272) 50 = .ok (.iload_n 1, 1) := by decide +kernel
theorem f_272_51 : decode (mB 272) 51 = .ok (.iaload, 1) := by decide +kernel
theorem f_272_52 : decode (mB 272) 52 = .ok (.aload_n 0, 1) := by decide +kernel
theorem f_272_53 : decode (mB 272) 53 = .ok (.getfield 53, 3) := by decide +kernel
theorem f_272_56 : decode (mB 272) 56 = .ok (.iload_n 3, 1) := by decide +kernel
theorem f_272_57 : decode (mB 272) 57 = .ok (.iaload, 1) := by decide +kernel
theorem f_272_58 : decode (mB 272) 58 = .ok (.if_icmp .eq 10, 3) := by decide +kernel
theorem f_272_61 : decode (mB 272) 61 = .ok (.aload_n 0, 1) := by decide +kernel
theorem f_272_62 : decode (mB 272) 62 = .ok (.ldc 150, 2) := by decide +kernel
theorem f_272_64 : decode (mB 272) 64 = .ok (.invokevirtual 78, 3) := by decide +kernel
theorem f_272_67 : decode (mB 272) 67 = .ok (.ireturn, 1) := by decide +kernel
theorem f_272_68 : decode (mB 272) 68 = .ok (.iload_n 2, 1) := by decide +kernel
theorem f_272_69 : decode (mB 272) 69 = .ok (.ifCond .lt 48, 3) := by decide +kernel
theorem f_272_72 : decode (mB 272) 72 = .ok (.iload 4, 2) := by decide +kernel
theorem f_272_74 : decode (mB 272) 74 = .ok (.ifCond .lt 43, 3) := by decide +kernel
theorem f_272_77 : decode (mB 272) 77 = .ok (.iload 5, 2) := by decide +kernel
theorem f_272_79 : decode (mB 272) 79 = .ok (.ifCond .lt 38, 3) := by decide +kernel
theorem f_272_82 : decode (mB 272) 82 = .ok (.iload_n 2, 1) := by decide +kernel
theorem f_272_83 : decode (mB 272) 83 = .ok (.i2l, 1) := by decide +kernel
theorem f_272_84 : decode (mB 272) 84 = .ok (.iload 5, 2) := by decide +kernel
theorem f_272_86 : decode (mB 272) 86 = .ok (.i2l, 1) := by decide +kernel
theorem f_272_87 : decode (mB 272) 87 = .ok (.ladd, 1) := by decide +kernel
theorem f_272_88 : decode (mB 272) 88 = .ok (.aload_n 0, 1) := by decide +kernel
theorem f_272_89 : decode (mB 272) 89 = .ok (.getfield 56, 3) := by decide +kernel
theorem f_272_92 : decode (mB 272) 92 = .ok (.iload_n 1, 1) := by decide +kernel
theorem f_272_93 : decode (mB 272) 93 = .ok (.iaload, 1) := by decide +kernel
theorem f_272_94 : decode (mB 272) 94 = .ok (.i2l, 1) := by decide +kernel
theorem f_272_95 : decode (mB 272) 95 = .ok (.lcmp, 1) := by decide +kernel
theorem f_272_96 : decode (mB 272) 96 = .ok (.ifCond .gt 21, 3) := by decide +kernel
theorem f_272_99 : decode (mB 272) 99 = .ok (.iload 4, 2) := by decide +kernel
theorem f_272_101 : decode (mB 272) 101 = .ok (.i2l, 1) := by decide +kernel
theorem f_272_102 : decode (mB 272) 102 = .ok (.iload 5, 2) := by decide +kernel
theorem f_272_104 : decode (mB 272) 104 = .ok (.i2l, 1) := by decide +kernel
theorem f_272_105 : decode (mB 272) 105 = .ok (.ladd, 1) := by decide +kernel
theorem f_272_106 : decode (mB 272) 106 = .ok (.aload_n 0, 1) := by decide +kernel
theorem f_272_107 : decode (mB 272) 107 = .ok (.getfield 56, 3) := by decide +kernel
theorem f_272_110 : decode (mB 272) 110 = .ok (.iload_n 3, 1) := by decide +kernel
theorem f_272_111 : decode (mB 272) 111 = .ok (.iaload, 1) := by decide +kernel
theorem f_272_112 : decode (mB 272) 112 = .ok (.i2l, 1) := by decide +kernel
theorem f_272_113 : decode (mB 272) 113 = .ok (.lcmp, 1) := by decide +kernel
theorem f_272_114 : decode (mB 272) 114 = .ok (.ifCond .le 10, 3) := by decide +kernel
theorem f_272_117 : decode (mB 272) 117 = .ok (.aload_n 0, 1) := by decide +kernel
theorem f_272_118 : decode (mB 272) 118 = .ok (.ldc 77, 2) := by decide +kernel
theorem f_272_120 : decode (mB 272) 120 = .ok (.invokevirtual 78, 3) := by decide +kernel
theorem f_272_123 : decode (mB 272) 123 = .ok (.ireturn, 1) := by decide +kernel
theorem f_272_124 : decode (mB 272) 124 = .ok (.iconst 0, 1) := by decide +kernel
theorem f_272_125 : decode (mB 272) 125 = .ok (.istore 6, 2) := by decide +kernel
theorem f_272_127 : decode (mB 272) 127 = .ok (.iload 6, 2) := by decide +kernel
theorem f_272_129 : decode (mB 272) 129 = .ok (.iload 5, 2) := by decide +kernel
theorem f_272_131 : decode (mB 272) 131 = .ok (.if_icmp .ge 30, 3) := by decide +kernel
theorem f_272_134 : decode (mB 272) 134 = .ok (.aload_n 0, 1) := by decide +kernel
theorem f_272_135 : decode (mB 272) 135 = .ok (.getfield 62, 3) := by decide +kernel
theorem f_272_138 : decode (mB 272) 138 = .ok (.iload 6, 2) := by decide +kernel
theorem f_272_140 : decode (mB 272) 140 = .ok (.aload_n 0, 1) := by decide +kernel
theorem f_272_141 : decode (mB 272) 141 = .ok (.getfield 59, 3) := by decide +kernel
theorem f_272_144 : decode (mB 272) 144 = .ok (.bipush 20, 2) := by decide +kernel
theorem f_272_146 : decode (mB 272) 146 = .ok (.iload_n 1, 1) := by decide +kernel
theorem f_272_147 : decode (mB 272) 147 = .ok (.imul, 1) := by decide +kernel
theorem f_272_148 : decode (mB 272) 148 = .ok (.iload_n 2, 1) := by decide +kernel
theorem f_272_149 : decode (mB 272) 149 = .ok (.iadd, 1) := by decide +kernel
theorem f_272_150 : decode (mB 272) 150 = .ok (.iload 6, 2) := by decide +kernel
theorem f_272_152 : decode (mB 272) 152 = .ok (.iadd, 1) := by decide +kernel
theorem f_272_153 : decode (mB 272) 153 = .ok (.iaload, 1) := by decide +kernel
theorem f_272_154 : decode (mB 272) 154 = .ok (.iastore, 1) := by decide +kernel
theorem f_272_155 : decode (mB 272) 155 = .ok (.iinc 6 1, 3) := by decide +kernel
theorem f_272_158 : decode (mB 272) 158 = .ok (.goto (-31), 3) := by decide +kernel
theorem f_272_161 : decode (mB 272) 161 = .ok (.iconst 0, 1) := by decide +kernel
theorem f_272_162 : decode (mB 272) 162 = .ok (.istore 6, 2) := by decide +kernel
theorem f_272_164 : decode (mB 272) 164 = .ok (.iload 6, 2) := by decide +kernel
theorem f_272_166 : decode (mB 272) 166 = .ok (.iload 5, 2) := by decide +kernel
theorem f_272_168 : decode (mB 272) 168 = .ok (.if_icmp .ge 31, 3) := by decide +kernel
theorem f_272_171 : decode (mB 272) 171 = .ok (.aload_n 0, 1) := by decide +kernel
theorem f_272_172 : decode (mB 272) 172 = .ok (.getfield 59, 3) := by decide +kernel
theorem f_272_175 : decode (mB 272) 175 = .ok (.bipush 20, 2) := by decide +kernel
theorem f_272_177 : decode (mB 272) 177 = .ok (.iload_n 3, 1) := by decide +kernel
theorem f_272_178 : decode (mB 272) 178 = .ok (.imul, 1) := by decide +kernel
theorem f_272_179 : decode (mB 272) 179 = .ok (.iload 4, 2) := by decide +kernel
theorem f_272_181 : decode (mB 272) 181 = .ok (.iadd, 1) := by decide +kernel
theorem f_272_182 : decode (mB 272) 182 = .ok (.iload 6, 2) := by decide +kernel
theorem f_272_184 : decode (mB 272) 184 = .ok (.iadd, 1) := by decide +kernel
theorem f_272_185 : decode (mB 272) 185 = .ok (.aload_n 0, 1) := by decide +kernel
theorem f_272_186 : decode (mB 272) 186 = .ok (.getfield 62, 3) := by decide +kernel
theorem f_272_189 : decode (mB 272) 189 = .ok (.iload 6, 2) := by decide +kernel
theorem f_272_191 : decode (mB 272) 191 = .ok (.iaload, 1) := by decide +kernel
theorem f_272_192 : decode (mB 272) 192 = .ok (.iastore, 1) := by decide +kernel
theorem f_272_193 : decode (mB 272) 193 = .ok (.iinc 6 1, 3) := by decide +kernel
theorem f_272_196 : decode (mB 272) 196 = .ok (.goto (-32), 3) := by decide +kernel
theorem f_272_199 : decode (mB 272) 199 = .ok (.iload 5, 2) := by decide +kernel
theorem f_272_201 : decode (mB 272) 201 = .ok (.ireturn, 1) := by decide +kernel
theorem f_273_0 : decode (mB 273) 0 = .ok (.iconst 0, 1) := by decide +kernel
theorem f_273_1 : decode (mB 273) 1 = .ok (.istore_n 1, 1) := by decide +kernel
theorem f_273_2 : decode (mB 273) 2 = .ok (.iload_n 1, 1) := by decide +kernel
theorem f_273_3 : decode (mB 273) 3 = .ok (.sipush 10759, 3) := by decide +kernel
theorem f_273_6 : decode (mB 273) 6 = .ok (.if_icmp .ge 21, 3) := by decide +kernel
theorem f_273_9 : decode (mB 273) 9 = .ok (.aload_n 0, 1) := by decide +kernel
theorem f_273_10 : decode (mB 273) 10 = .ok (.getfield 13, 3) := by decide +kernel
theorem f_273_13 : decode (mB 273) 13 = .ok (.iload_n 1, 1) := by decide +kernel
theorem f_273_14 : decode (mB 273) 14 = .ok (.aload_n 0, 1) := by decide +kernel
theorem f_273_15 : decode (mB 273) 15 = .ok (.getfield 7, 3) := by decide +kernel
theorem f_273_18 : decode (mB 273) 18 = .ok (.iload_n 1, 1) := by decide +kernel
theorem f_273_19 : decode (mB 273) 19 = .ok (.iaload, 1) := by decide +kernel
theorem f_273_20 : decode (mB 273) 20 = .ok (.iastore, 1) := by decide +kernel
theorem f_273_21 : decode (mB 273) 21 = .ok (.iinc 1 1, 3) := by decide +kernel
theorem f_273_24 : decode (mB 273) 24 = .ok (.goto (-22), 3) := by decide +kernel
theorem f_273_27 : decode (mB 273) 27 = .ok (.aload_n 0, 1) := by decide +kernel
theorem f_273_28 : decode (mB 273) 28 = .ok (.iconst 1, 1) := by decide +kernel
theorem f_273_29 : decode (mB 273) 29 = .ok (.putfield 297, 3) := by decide +kernel
theorem f_273_32 : decode (mB 273) 32 = .ok (.aload_n 0, 1) := by decide +kernel
theorem f_273_33 : decode (mB 273) 33 = .ok (.getfield 7, 3) := by decide +kernel
theorem f_273_36 : decode (mB 273) 36 = .ok (.iconst 3, 1) := by decide +kernel
theorem f_273_37 : decode (mB 273) 37 = .ok (.iaload, 1) := by decide +kernel
theorem f_273_38 : decode (mB 273) 38 = .ok (.ireturn, 1) := by decide +kernel
theorem f_274_0 : decode (mB 274) 0 = .ok (.aload_n 0, 1) := by decide +kernel
theorem f_274_1 : decode (mB 274) 1 = .ok (.getfield 297, 3) := by decide +kernel
theorem f_274_4 : decode (mB 274) 4 = .ok (.ifCond .ne 10, 3) := by decide +kernel
theorem f_274_7 : decode (mB 274) 7 = .ok (.aload_n 0, 1) := by decide +kernel
theorem f_274_8 : decode (mB 274) 8 = .ok (.ldc 131, 2) := by decide +kernel
theorem f_274_10 : decode (mB 274) 10 = .ok (.invokevirtual 78, 3) := by decide +kernel
theorem f_274_13 : decode (mB 274) 13 = .ok (.ireturn, 1) := by decide +kernel
theorem f_274_14 : decode (mB 274) 14 = .ok (.iconst 0, 1) := by decide +kernel
theorem f_274_15 : decode (mB 274) 15 = .ok (.istore_n 1, 1) := by decide +kernel
theorem f_274_16 : decode (mB 274) 16 = .ok (.iload_n 1, 1) := by decide +kernel
theorem f_274_17 : decode (mB 274) 17 = .ok (.sipush 10759, 3) := by decide +kernel
theorem f_274_20 : decode (mB 274) 20 = .ok (.if_icmp .ge 21, 3) := by decide +kernel
theorem f_274_23 : decode (mB 274) 23 = .ok (.aload_n 0, 1) := by decide +kernel
theorem f_274_24 : decode (mB 274) 24 = .ok (.getfield 7, 3) := by decide +kernel
theorem f_274_27 : decode (mB 274) 27 = .ok (.iload_n 1, 1) := by decide +kernel
theorem f_274_28 : decode (mB 274) 28 = .ok (.aload_n 0, 1) := by decide +kernel
theorem f_274_29 : decode (mB 274) 29 = .ok (.getfield 13, 3) := by decide +kernel
theorem f_274_32 : decode (mB 274) 32 = .ok (.iload_n 1, 1) := by decide +kernel
theorem f_274_33 : decode (mB 274) 33 = .ok (.iaload, 1) := by decide +kernel
theorem f_274_34 : decode (mB 274) 34 = .ok (.iastore, 1) := by decide +kernel
theorem f_274_35 : decode (mB 274) 35 = .ok (.iinc 1 1, 3) := by decide +kernel
theorem f_274_38 : decode (mB 274) 38 = .ok (.goto (-22), 3) := by decide +kernel
theorem f_274_41 : decode (mB 274) 41 = .ok (.aload_n 0, 1) := by decide +kernel
theorem f_274_42 : decode (mB 274) 42 = .ok (.getfield 7, 3) := by decide +kernel
theorem f_274_45 : decode (mB 274) 45 = .ok (.iconst 3, 1) := by decide +kernel
theorem f_274_46 : decode (mB 274) 46 = .ok (.iaload, 1) := by decide +kernel
theorem f_274_47 : decode (mB 274) 47 = .ok (.ireturn, 1) := by decide +kernel
theorem f_275_0 : decode (mB 275) 0 = .ok (.iconst 0, 1) := by decide +kernel
theorem f_275_1 : decode (mB 275) 1 = .ok (.istore_n 2, 1) := by decide +kernel
theorem f_275_2 : decode (mB 275) 2 = .ok (.iload_n 1, 1) := by decide +kernel
theorem f_275_3 : decode (mB 275) 3 = .ok (.tableswitch 192 0 8 #[49, 85, 92, 99, 135, 142, 172, 179, 187], 49) := by decide +kernel
theorem f_275_52 : decode (mB 275) 52 = .ok (.iconst 0, 1) := by decide +kernel
theorem f_275_53 : decode (mB 275) 53 = .ok (.istore_n 3, 1) := by decide +kernel
theorem f_275_54 : decode (mB 275) 54 = .ok (.iload_n 3, 1) := by decide +kernel
theorem f_275_55 : decode (mB 275) 55 = .ok (.aload_n 0, 1) := by decide +kernel
theorem f_275_56 : decode (mB 275) 56 = .ok (.getfield 7, 3) := by decide +kernel
theorem f_275_59 : decode (mB 275) 59 = .ok (.iconst 0, 1) := by decide +kernel
theorem f_275_60 : decode (mB 275) 60 = .ok (.iaload, 1) := by decide +kernel
theorem f_275_61 : decode (mB 275) 61 = .ok (.if_icmp .ge 25, 3) := by decide +kernel
theorem f_275_64 : decode (mB 275) 64 = .ok (.iload_n 2, 1) := by decide +kernel
theorem f_275_65 : decode (mB 275) 65 = .ok (.aload_n 0, 1) := by decide +kernel
theorem f_275_66 : decode (mB 275) 66 = .ok (.iload_n 3, 1) := by decide +kernel
theorem f_275_67 : decode (mB 275) 67 = .ok (.invokevirtual 91, 3) := by decide +kernel
theorem f_275_70 : decode (mB 275) 70 = .ok (.ifCond .eq 7, 3) := by decide +kernel
theorem f_275_73 : decode (mB 275) 73 = .ok (.iconst 1, 1) := by decide +kernel
theorem f_275_74 : decode (mB 275) 74 = .ok (.goto 4, 3) := by decide +kernel
theorem f_275_77 : decode (mB 275) 77 = .ok (.iconst 0, 1) := by decide +kernel
theorem f_275_78 : decode (mB 275) 78 = .ok (.iadd, 1) := by decide +kernel
theorem f_275_79 : decode (mB 275) 79 = .ok (.istore_n 2, 1) := by decide +kernel
theorem f_275_80 : decode (mB 275) 80 = .ok (.iinc 3 1, 3) := by decide +kernel
theorem f_275_83 : decode (mB 275) 83 = .ok (.goto (-29), 3) := by decide +kernel
theorem f_275_86 : decode (mB 275) 86 = .ok (.iload_n 2, 1) := by decide +kernel
theorem f_275_87 : decode (mB 275) 87 = .ok (.ireturn, 1) := by decide +kernel
theorem f_275_88 : decode (mB 275) 88 = .ok (.aload_n 0, 1) := by decide +kernel
theorem f_275_89 : decode (mB 275) 89 = .ok (.getfield 7, 3) := by decide +kernel
theorem f_275_92 : decode (mB 275) 92 = .ok (.iconst 1, 1) := by decide +kernel
theorem f_275_93 : decode (mB 275) 93 = .ok (.iaload, 1) := by decide +kernel
theorem f_275_94 : decode (mB 275) 94 = .ok (.ireturn, 1) := by decide +kernel
theorem f_275_95 : decode (mB 275) 95 = .ok (.aload_n 0, 1) := by decide +kernel
theorem f_275_96 : decode (mB 275) 96 = .ok (.getfield 7, 3) := by decide +kernel
theorem f_275_99 : decode (mB 275) 99 = .ok (.iconst 2, 1) := by decide +kernel
theorem f_275_100 : decode (mB 275) 100 = .ok (.iaload, 1) := by decide +kernel
theorem f_275_101 : decode (mB 275) 101 = .ok (.ireturn, 1) := by decide +kernel
theorem f_275_102 : decode (mB 275) 102 = .ok (.iconst 0, 1) := by decide +kernel
theorem f_275_103 : decode (mB 275) 103 = .ok (.istore_n 3, 1) := by decide +kernel
theorem f_275_104 : decode (mB 275) 104 = .ok (.iload_n 3, 1) := by decide +kernel
theorem f_275_105 : decode (mB 275) 105 = .ok (.aload_n 0, 1) := by decide +kernel
theorem f_275_106 : decode (mB 275) 106 = .ok (.getfield 7, 3) := by decide +kernel
theorem f_275_109 : decode (mB 275) 109 = .ok (.iconst 2, 1) := by decide +kernel
theorem f_275_110 : decode (mB 275) 110 = .ok (.iaload, 1) := by decide +kernel
theorem f_275_111 : decode (mB 275) 111 = .ok (.if_icmp .ge 25, 3) := by decide +kernel
theorem f_275_114 : decode (mB 275) 114 = .ok (.iload_n 2, 1) := by decide +kernel
theorem f_275_115 : decode (mB 275) 115 = .ok (.aload_n 0, 1) := by decide +kernel
theorem f_275_116 : decode (mB 275) 116 = .ok (.iload_n 3, 1) := by decide +kernel
theorem f_275_117 : decode (mB 275) 117 = .ok (.invokevirtual 95, 3) := by decide +kernel
theorem f_275_120 : decode (mB 275) 120 = .ok (.ifCond .eq 7, 3) := by decide +kernel
theorem f_275_123 : decode (mB 275) 123 = .ok (.iconst 1, 1) := by decide +kernel
theorem f_275_124 : decode (mB 275) 124 = .ok (.goto 4, 3) := by decide +kernel
theorem f_275_127 : decode (mB 275) 127 = .ok (.iconst 0, 1) := by decide +kernel
theorem f_275_128 : decode (mB 275) 128 = .ok (.iadd, 1) := by decide +kernel
theorem f_275_129 : decode (mB 275) 129 = .ok (.istore_n 2, 1) := by decide +kernel
theorem f_275_130 : decode (mB 275) 130 = .ok (.iinc 3 1, 3) := by decide +kernel
theorem f_275_133 : decode (mB 275) 133 = .ok (.goto (-29), 3) := by decide +kernel
theorem f_275_136 : decode (mB 275) 136 = .ok (.iload_n 2, 1) := by decide +kernel
theorem f_275_137 : decode (mB 275) 137 = .ok (.ireturn, 1) := by decide +kernel
theorem f_275_138 : decode (mB 275) 138 = .ok (.aload_n 0, 1) := by decide +kernel
theorem f_275_139 : decode (mB 275) 139 = .ok (.getfield 7, 3) := by decide +kernel
theorem f_275_142 : decode (mB 275) 142 = .ok (.iconst 3, 1) := by decide +kernel
theorem f_275_143 : decode (mB 275) 143 = .ok (.iaload, 1) := by decide +kernel
theorem f_275_144 : decode (mB 275) 144 = .ok (.ireturn, 1) := by decide +kernel
theorem f_275_145 : decode (mB 275) 145 = .ok (.iconst 0, 1) := by decide +kernel
theorem f_275_146 : decode (mB 275) 146 = .ok (.istore_n 3, 1) := by decide +kernel
theorem f_275_147 : decode (mB 275) 147 = .ok (.iload_n 3, 1) := by decide +kernel
theorem f_275_148 : decode (mB 275) 148 = .ok (.aload_n 0, 1) := by decide +kernel
theorem f_275_149 : decode (mB 275) 149 = .ok (.getfield 7, 3) := by decide +kernel
theorem f_275_152 : decode (mB 275) 152 = .ok (.iconst 0, 1) := by decide +kernel
theorem f_275_153 : decode (mB 275) 153 = .ok (.iaload, 1) := by decide +kernel
theorem f_275_154 : decode (mB 275) 154 = .ok (.if_icmp .ge 19, 3) := by decide +kernel
theorem f_275_157 : decode (mB 275) 157 = .ok (.iload_n 2, 1) := by decide +kernel
theorem f_275_158 : decode (mB 275) 158 = .ok (.aload_n 0, 1) := by decide +kernel
theorem f_275_159 : decode (mB 275) 159 = .ok (.iload_n 3, 1) := by decide +kernel
theorem f_275_160 : decode (mB 275) 160 = .ok (.bipush 6, 2) := by decide +kernel
theorem f_275_162 : decode (mB 275) 162 = .ok (.invokevirtual 73, 3) := by decide +kernel
theorem f_275_165 : decode (mB 275) 165 = .ok (.iadd, 1) := by decide +kernel
theorem f_275_166 : decode (mB 275) 166 = .ok (.istore_n 2, 1) := by decide +kernel
theorem f_275_167 : decode (mB 275) 167 = .ok (.iinc 3 1, 3) := by decide +kernel
theorem f_275_170 : decode (mB 275) 170 = .ok (.goto (-23), 3) := by decide +kernel
theorem f_275_173 : decode (mB 275) 173 = .ok (.iload_n 2, 1) := by decide +kernel
theorem f_275_174 : decode (mB 275) 174 = .ok (.ireturn, 1) := by decide +kernel
theorem f_275_175 : decode (mB 275) 175 = .ok (.aload_n 0, 1) := by decide +kernel
theorem f_275_176 : decode (mB 275) 176 = .ok (.getfield 7, 3) := by decide +kernel
theorem f_275_179 : decode (mB 275) 179 = .ok (.iconst 5, 1) := by decide +kernel
theorem f_275_180 : decode (mB 275) 180 = .ok (.iaload, 1) := by decide +kernel
theorem f_275_181 : decode (mB 275) 181 = .ok (.ireturn, 1) := by decide +kernel
theorem f_275_182 : decode (mB 275) 182 = .ok (.aload_n 0, 1) := by decide +kernel
theorem f_275_183 : decode (mB 275) 183 = .ok (.getfield 7, 3) := by decide +kernel
theorem f_275_186 : decode (mB 275) 186 = .ok (.bipush 6, 2) := by decide +kernel
theorem f_275_188 : decode (mB 275) 188 = .ok (.iaload, 1) := by decide +kernel
theorem f_275_189 : decode (mB 275) 189 = .ok (.ireturn, 1) := by decide +kernel
theorem f_275_190 : decode (mB 275) 190 = .ok (.aload_n 0, 1) := by decide +kernel
theorem f_275_191 : decode (mB 275) 191 = .ok (.getfield 65, 3) := by decide +kernel
theorem f_275_194 : decode (mB 275) 194 = .ok (.ireturn, 1) := by decide +kernel
theorem f_275_195 : decode (mB 275) 195 = .ok (.aload_n 0, 1) := by decide +kernel
theorem f_275_196 : decode (mB 275) 196 = .ok (.ldc 77, 2) := by decide +kernel
theorem f_275_198 : decode (mB 275) 198 = .ok (.invokevirtual 78, 3) := by decide +kernel
theorem f_275_201 : decode (mB 275) 201 = .ok (.ireturn, 1) := by decide +kernel
theorem fd_0_10 : fld 0 10 = some (0, 10, 0, 0) := by decide +kernel
theorem fd_0_16 : fld 0 16 = some (0, 16, 0, 1) := by decide +kernel
theorem fd_0_24 : fld 0 24 = some (0, 24, 0, 2) := by decide +kernel
theorem fd_0_33 : fld 0 33 = some (0, 33, 0, 3) := by decide +kernel
theorem fd_0_40 : fld 0 40 = some (0, 40, 0, 4) := by decide +kernel
theorem fd_0_47 : fld 0 47 = some (0, 47, 0, 5) := by decide +kernel
theorem fd_0_53 : fld 0 53 = some (0, 53, 0, 6) := by decide +kernel
theorem fd_0_57 : fld 0 57 = some (0, 57, 0, 7) := by decide +kernel
theorem fd_0_61 : fld 0 61 = some (0, 61, 0, 8) := by decide +kernel
theorem fd_0_66 : fld 0 66 = some (0, 66, 3, 11) := by decide +kernel
theorem fd_0_88 : fld 0 88 = some (0, 88, 3, 7) := by decide +kernel
theorem fd_0_92 : fld 0 92 = some (0, 92, 3, 0) := by decide +kernel
theorem fd_0_106 : fld 0 106 = some (0, 106, 6, 8) := by decide +kernel
theorem fd_0_109 : fld 0 109 = some (0, 109, 6, 9) := by decide +kernel
theorem fd_0_112 : fld 0 112 = some (0, 112, 6, 5) := by decide +kernel
theorem fd_0_120 : fld 0 120 = some (0, 120, 6, 3) := by decide +kernel
theorem fd_0_123 : fld 0 123 = some (0, 123, 3, 13) := by decide +kernel
theorem fd_0_126 : fld 0 126 = some (0, 126, 6, 4) := by decide +kernel
theorem fd_0_129 : fld 0 129 = some (0, 129, 6, 0) := by decide +kernel
theorem fd_0_132 : fld 0 132 = some (0, 132, 6, 6) := by decide +kernel
theorem fd_0_141 : fld 0 141 = some (0, 141, 6, 7) := by decide +kernel
theorem fd_0_147 : fld 0 147 = some (0, 147, 3, 8) := by decide +kernel
theorem fd_0_150 : fld 0 150 = some (0, 150, 3, 1) := by decide +kernel
theorem fd_0_162 : fld 0 162 = some (0, 162, 2, 1) := by decide +kernel
theorem fd_0_165 : fld 0 165 = some (0, 165, 2, 0) := by decide +kernel
theorem fd_0_168 : fld 0 168 = some (0, 168, 2, 2) := by decide +kernel
theorem fd_0_171 : fld 0 171 = some (0, 171, 2, 3) := by decide +kernel
theorem fd_0_188 : fld 0 188 = some (0, 188, 3, 9) := by decide +kernel
theorem fd_0_206 : fld 0 206 = some (0, 206, 3, 2) := by decide +kernel
theorem fd_0_210 : fld 0 210 = some (0, 210, 5, 0) := by decide +kernel
theorem fd_0_217 : fld 0 217 = some (0, 217, 5, 8) := by decide +kernel
theorem fd_0_220 : fld 0 220 = some (0, 220, 5, 9) := by decide +kernel
theorem fd_0_227 : fld 0 227 = some (0, 227, 5, 1) := by decide +kernel
theorem fd_0_237 : fld 0 237 = some (0, 237, 5, 2) := by decide +kernel
theorem fd_0_240 : fld 0 240 = some (0, 240, 5, 3) := by decide +kernel
theorem fd_0_243 : fld 0 243 = some (0, 243, 5, 4) := by decide +kernel
theorem fd_0_246 : fld 0 246 = some (0, 246, 5, 5) := by decide +kernel
theorem fd_0_249 : fld 0 249 = some (0, 249, 5, 6) := by decide +kernel
theorem fd_0_252 : fld 0 252 = some (0, 252, 5, 7) := by decide +kernel
theorem fd_0_258 : fld 0 258 = some (0, 258, 3, 5) := by decide +kernel
theorem fd_0_272 : fld 0 272 = some (0, 272, 7, 1) := by decide +kernel
theorem fd_0_278 : fld 0 278 = some (0, 278, 3, 4) := by decide +kernel
theorem fd_0_286 : fld 0 286 = some (0, 286, 3, 10) := by decide +kernel
theorem fd_0_289 : fld 0 289 = some (0, 289, 3, 3) := by decide +kernel
theorem fd_0_328 : fld 0 328 = some (0, 328, 9, 2) := by decide +kernel
theorem fd_0_329 : fld 0 329 = some (0, 329, 9, 0) := by decide +kernel
theorem fd_0_363 : fld 0 363 = some (0, 363, 9, 1) := by decide +kernel
theorem fd_0_387 : fld 0 387 = some (0, 387, 3, 12) := by decide +kernel
theorem fd_1_11 : fld 1 11 = some (1, 11, 1, 1) := by decide +kernel
theorem fd_1_17 : fld 1 17 = some (1, 17, 1, 2) := by decide +kernel
theorem fd_1_20 : fld 1 20 = some (1, 20, 1, 0) := by decide +kernel
theorem fd_1_24 : fld 1 24 = some (1, 24, 5, 0) := by decide +kernel
theorem fd_1_46 : fld 1 46 = some (1, 46, 3, 0) := by decide +kernel
theorem fd_1_50 : fld 1 50 = some (1, 50, 2, 2) := by decide +kernel
theorem fd_1_55 : fld 1 55 = some (1, 55, 6, 8) := by decide +kernel
theorem fd_1_73 : fld 1 73 = some (1, 73, 2, 0) := by decide +kernel
theorem fd_1_84 : fld 1 84 = some (1, 84, 5, 8) := by decide +kernel
theorem fd_1_87 : fld 1 87 = some (1, 87, 5, 5) := by decide +kernel
theorem fd_1_94 : fld 1 94 = some (1, 94, 5, 4) := by decide +kernel
theorem fd_1_97 : fld 1 97 = some (1, 97, 5, 3) := by decide +kernel
theorem fd_1_100 : fld 1 100 = some (1, 100, 5, 1) := by decide +kernel
theorem fd_1_103 : fld 1 103 = some (1, 103, 5, 2) := by decide +kernel
theorem fd_1_106 : fld 1 106 = some (1, 106, 5, 6) := by decide +kernel
theorem fd_1_109 : fld 1 109 = some (1, 109, 5, 7) := by decide +kernel
theorem fd_1_116 : fld 1 116 = some (1, 116, 3, 1) := by decide +kernel
theorem fd_1_120 : fld 1 120 = some (1, 120, 2, 1) := by decide +kernel
theorem fd_1_123 : fld 1 123 = some (1, 123, 2, 3) := by decide +kernel
theorem fd_1_129 : fld 1 129 = some (1, 129, 3, 3) := by decide +kernel
theorem fd_1_133 : fld 1 133 = some (1, 133, 4, 0) := by decide +kernel
theorem fd_1_143 : fld 1 143 = some (1, 143, 10, 0) := by decide +kernel
theorem fd_2_7 : fld 2 7 = some (2, 7, 2, 0) := by decide +kernel
theorem fd_2_13 : fld 2 13 = some (2, 13, 2, 1) := by decide +kernel
theorem fd_2_16 : fld 2 16 = some (2, 16, 2, 2) := by decide +kernel
theorem fd_2_19 : fld 2 19 = some (2, 19, 2, 3) := by decide +kernel
theorem fd_3_11 : fld 3 11 = some (3, 11, 3, 0) := by decide +kernel
theorem fd_3_19 : fld 3 19 = some (3, 19, 3, 1) := by decide +kernel
theorem fd_3_25 : fld 3 25 = some (3, 25, 3, 2) := by decide +kernel
theorem fd_3_31 : fld 3 31 = some (3, 31, 3, 3) := by decide +kernel
theorem fd_3_37 : fld 3 37 = some (3, 37, 3, 4) := by decide +kernel
theorem fd_3_41 : fld 3 41 = some (3, 41, 3, 5) := by decide +kernel
theorem fd_3_45 : fld 3 45 = some (3, 45, 3, 6) := by decide +kernel
theorem fd_3_48 : fld 3 48 = some (3, 48, 3, 7) := by decide +kernel
theorem fd_3_52 : fld 3 52 = some (3, 52, 3, 8) := by decide +kernel
theorem fd_3_55 : fld 3 55 = some (3, 55, 3, 9) := by decide +kernel
theorem fd_3_58 : fld 3 58 = some (3, 58, 3, 10) := by decide +kernel
theorem fd_3_61 : fld 3 61 = some (3, 61, 3, 11) := by decide +kernel
theorem fd_3_64 : fld 3 64 = some (3, 64, 3, 12) := by decide +kernel
theorem fd_3_67 : fld 3 67 = some (3, 67, 3, 13) := by decide +kernel
theorem fd_3_90 : fld 3 90 = some (3, 90, 4, 0) := by decide +kernel
theorem fd_3_94 : fld 3 94 = some (3, 94, 4, 1) := by decide +kernel
theorem fd_3_97 : fld 3 97 = some (3, 97, 4, 2) := by decide +kernel
theorem fd_3_131 : fld 3 131 = some (3, 131, 6, 3) := by decide +kernel
theorem fd_3_143 : fld 3 143 = some (3, 143, 5, 7) := by decide +kernel
theorem fd_3_152 : fld 3 152 = some (3, 152, 5, 2) := by decide +kernel
theorem fd_3_155 : fld 3 155 = some (3, 155, 2, 2) := by decide +kernel
theorem fd_3_158 : fld 3 158 = some (3, 158, 5, 0) := by decide +kernel
theorem fd_3_161 : fld 3 161 = some (3, 161, 5, 1) := by decide +kernel
theorem fd_3_164 : fld 3 164 = some (3, 164, 6, 6) := by decide +kernel
theorem fd_3_167 : fld 3 167 = some (3, 167, 5, 9) := by decide +kernel
theorem fd_3_174 : fld 3 174 = some (3, 174, 5, 4) := by decide +kernel
theorem fd_4_7 : fld 4 7 = some (4, 7, 4, 0) := by decide +kernel
theorem fd_4_13 : fld 4 13 = some (4, 13, 4, 1) := by decide +kernel
theorem fd_4_17 : fld 4 17 = some (4, 17, 4, 2) := by decide +kernel
theorem fd_5_9 : fld 5 9 = some (5, 9, 5, 0) := by decide +kernel
theorem fd_5_15 : fld 5 15 = some (5, 15, 5, 1) := by decide +kernel
theorem fd_5_18 : fld 5 18 = some (5, 18, 5, 2) := by decide +kernel
theorem fd_5_21 : fld 5 21 = some (5, 21, 5, 3) := by decide +kernel
theorem fd_5_24 : fld 5 24 = some (5, 24, 5, 4) := by decide +kernel
theorem fd_5_27 : fld 5 27 = some (5, 27, 5, 5) := by decide +kernel
theorem fd_5_30 : fld 5 30 = some (5, 30, 5, 6) := by decide +kernel
theorem fd_5_33 : fld 5 33 = some (5, 33, 5, 7) := by decide +kernel
theorem fd_5_36 : fld 5 36 = some (5, 36, 5, 8) := by decide +kernel
theorem fd_5_39 : fld 5 39 = some (5, 39, 5, 9) := by decide +kernel
theorem fd_6_7 : fld 6 7 = some (6, 7, 6, 0) := by decide +kernel
theorem fd_6_13 : fld 6 13 = some (6, 13, 6, 1) := by decide +kernel
theorem fd_6_16 : fld 6 16 = some (6, 16, 6, 2) := by decide +kernel
theorem fd_6_19 : fld 6 19 = some (6, 19, 6, 3) := by decide +kernel
theorem fd_6_22 : fld 6 22 = some (6, 22, 6, 4) := by decide +kernel
theorem fd_6_25 : fld 6 25 = some (6, 25, 6, 5) := by decide +kernel
theorem fd_6_28 : fld 6 28 = some (6, 28, 6, 6) := by decide +kernel
theorem fd_6_31 : fld 6 31 = some (6, 31, 6, 7) := by decide +kernel
theorem fd_6_34 : fld 6 34 = some (6, 34, 6, 8) := by decide +kernel
theorem fd_6_38 : fld 6 38 = some (6, 38, 6, 9) := by decide +kernel
theorem fd_7_11 : fld 7 11 = some (7, 11, 7, 0) := by decide +kernel
theorem fd_7_15 : fld 7 15 = some (7, 15, 7, 1) := by decide +kernel
theorem fd_7_19 : fld 7 19 = some (7, 19, 7, 2) := by decide +kernel
theorem fd_7_22 : fld 7 22 = some (7, 22, 7, 3) := by decide +kernel
theorem fd_7_25 : fld 7 25 = some (7, 25, 7, 4) := by decide +kernel
theorem fd_7_28 : fld 7 28 = some (7, 28, 7, 5) := by decide +kernel
theorem fd_7_31 : fld 7 31 = some (7, 31, 7, 6) := by decide +kernel
theorem fd_7_34 : fld 7 34 = some (7, 34, 7, 7) := by decide +kernel
theorem fd_7_37 : fld 7 37 = some (7, 37, 7, 8) := by decide +kernel
theorem fd_8_9 : fld 8 9 = some (8, 9, 8, 0) := by decide +kernel
theorem fd_8_15 : fld 8 15 = some (8, 15, 8, 1) := by decide +kernel
theorem fd_8_19 : fld 8 19 = some (8, 19, 3, 8) := by decide +kernel
theorem fd_8_25 : fld 8 25 = some (8, 25, 3, 1) := by decide +kernel
theorem fd_8_29 : fld 8 29 = some (8, 29, 2, 2) := by decide +kernel
theorem fd_8_34 : fld 8 34 = some (8, 34, 2, 1) := by decide +kernel
theorem fd_8_41 : fld 8 41 = some (8, 41, 3, 7) := by decide +kernel
theorem fd_8_44 : fld 8 44 = some (8, 44, 3, 0) := by decide +kernel
theorem fd_8_58 : fld 8 58 = some (8, 58, 3, 9) := by decide +kernel
theorem fd_8_61 : fld 8 61 = some (8, 61, 3, 2) := by decide +kernel
theorem fd_8_65 : fld 8 65 = some (8, 65, 5, 9) := by decide +kernel
theorem fd_8_70 : fld 8 70 = some (8, 70, 5, 6) := by decide +kernel
theorem fd_8_73 : fld 8 73 = some (8, 73, 3, 11) := by decide +kernel
theorem fd_8_87 : fld 8 87 = some (8, 87, 6, 3) := by decide +kernel
theorem fd_8_99 : fld 8 99 = some (8, 99, 6, 7) := by decide +kernel
theorem fd_8_102 : fld 8 102 = some (8, 102, 3, 12) := by decide +kernel
theorem fd_8_119 : fld 8 119 = some (8, 119, 5, 8) := by decide +kernel
theorem fd_8_128 : fld 8 128 = some (8, 128, 6, 8) := by decide +kernel
theorem fd_8_132 : fld 8 132 = some (8, 132, 6, 5) := by decide +kernel
theorem fd_8_135 : fld 8 135 = some (8, 135, 5, 1) := by decide +kernel
theorem fd_8_146 : fld 8 146 = some (8, 146, 5, 0) := by decide +kernel
theorem fd_8_149 : fld 8 149 = some (8, 149, 5, 7) := by decide +kernel
theorem fd_8_156 : fld 8 156 = some (8, 156, 5, 2) := by decide +kernel
theorem fd_8_168 : fld 8 168 = some (8, 168, 2, 0) := by decide +kernel
theorem fd_9_9 : fld 9 9 = some (9, 9, 9, 0) := by decide +kernel
theorem fd_9_13 : fld 9 13 = some (9, 13, 9, 1) := by decide +kernel
theorem fd_9_17 : fld 9 17 = some (9, 17, 9, 2) := by decide +kernel
theorem fd_10_9 : fld 10 9 = some (10, 9, 10, 0) := by decide +kernel
theorem fd_10_15 : fld 10 15 = some (10, 15, 10, 1) := by decide +kernel
theorem fd_10_19 : fld 10 19 = some (10, 19, 10, 2) := by decide +kernel
theorem fd_11_11 : fld 11 11 = some (11, 11, 11, 0) := by decide +kernel
theorem fd_11_15 : fld 11 15 = some (11, 15, 11, 1) := by decide +kernel
theorem fd_11_56 : fld 11 56 = some (11, 56, 9, 2) := by decide +kernel
theorem fd_11_61 : fld 11 61 = some (11, 61, 9, 0) := by decide +kernel
theorem fd_12_7 : fld 12 7 = some (12, 7, 12, 0) := by decide +kernel
theorem fd_12_13 : fld 12 13 = some (12, 13, 12, 1) := by decide +kernel
theorem fd_12_16 : fld 12 16 = some (12, 16, 12, 4) := by decide +kernel
theorem fd_12_20 : fld 12 20 = some (12, 20, 12, 5) := by decide +kernel
theorem fd_12_23 : fld 12 23 = some (12, 23, 12, 6) := by decide +kernel
theorem fd_12_26 : fld 12 26 = some (12, 26, 12, 7) := by decide +kernel
theorem fd_12_30 : fld 12 30 = some (12, 30, 12, 9) := by decide +kernel
theorem fd_12_34 : fld 12 34 = some (12, 34, 12, 10) := by decide +kernel
theorem fd_12_37 : fld 12 37 = some (12, 37, 12, 11) := by decide +kernel
theorem fd_12_40 : fld 12 40 = some (12, 40, 12, 12) := by decide +kernel
theorem fd_12_43 : fld 12 43 = some (12, 43, 12, 13) := by decide +kernel
theorem fd_12_46 : fld 12 46 = some (12, 46, 12, 14) := by decide +kernel
theorem fd_12_50 : fld 12 50 = some (12, 50, 12, 21) := by decide +kernel
theorem fd_12_53 : fld 12 53 = some (12, 53, 12, 22) := by decide +kernel
theorem fd_12_56 : fld 12 56 = some (12, 56, 12, 23) := by decide +kernel
theorem fd_12_59 : fld 12 59 = some (12, 59, 12, 24) := by decide +kernel
theorem fd_12_62 : fld 12 62 = some (12, 62, 12, 25) := by decide +kernel
theorem fd_12_65 : fld 12 65 = some (12, 65, 12, 3) := by decide +kernel
theorem fd_12_170 : fld 12 170 = some (12, 170, 12, 8) := by decide +kernel
theorem fd_12_173 : fld 12 173 = some (12, 173, 12, 16) := by decide +kernel
theorem fd_12_176 : fld 12 176 = some (12, 176, 12, 15) := by decide +kernel
theorem fd_12_182 : fld 12 182 = some (12, 182, 12, 17) := by decide +kernel
theorem fd_12_195 : fld 12 195 = some (12, 195, 12, 18) := by decide +kernel
theorem fd_12_201 : fld 12 201 = some (12, 201, 12, 19) := by decide +kernel
theorem fd_12_204 : fld 12 204 = some (12, 204, 12, 20) := by decide +kernel
theorem fd_12_297 : fld 12 297 = some (12, 297, 12, 2) := by decide +kernel
theorem ko_0_83 : kon 0 83 = some (0, 83, (-100001)) := by decide +kernel
theorem ko_0_91 : kon 0 91 = some (0, 91, (-100005)) := by decide +kernel
theorem ko_0_119 : kon 0 119 = some (0, 119, (-100007)) := by decide +kernel
theorem ko_0_182 : kon 0 182 = some (0, 182, (-100006)) := by decide +kernel
theorem ko_0_183 : kon 0 183 = some (0, 183, (-100003)) := by decide +kernel
theorem ko_0_184 : kon 0 184 = some (0, 184, (-100002)) := by decide +kernel
theorem ko_0_216 : kon 0 216 = some (0, 216, (-100004)) := by decide +kernel
theorem ko_12_77 : kon 12 77 = some (12, 77, (-100001)) := by decide +kernel
theorem ko_12_82 : kon 12 82 = some (12, 82, (-100005)) := by decide +kernel
theorem ko_12_94 : kon 12 94 = some (12, 94, (-100007)) := by decide +kernel
theorem ko_12_131 : kon 12 131 = some (12, 131, (-100006)) := by decide +kernel
theorem ko_12_135 : kon 12 135 = some (12, 135, (-100003)) := by decide +kernel
theorem ko_12_139 : kon 12 139 = some (12, 139, (-100002)) := by decide +kernel
theorem ko_12_150 : kon 12 150 = some (12, 150, (-100004)) := by decide +kernel
