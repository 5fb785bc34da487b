theorem dX8_init_0 : decode cX8_init 0 = .ok (.aload_n 0, 1) := by decide +kernel
theorem dX8_init_1 : decode cX8_init 1 = .ok (.invokespecial 1, 3) := by decide +kernel
theorem dX8_init_4 : decode cX8_init 4 = .ok (.aload_n 0, 1) := by decide +kernel
theorem dX8_init_5 : decode cX8_init 5 = .ok (.iconst (-1), 1) := by decide +kernel
theorem dX8_init_6 : decode cX8_init 6 = .ok (.putfield 7, 3) := by decide +kernel
theorem dX8_init_9 : decode cX8_init 9 = .ok (.aload_n 0, 1) := by decide +kernel
theorem dX8_init_10 : decode cX8_init 10 = .ok (.iconst (-1), 1) := by decide +kernel
theorem dX8_init_11 : decode cX8_init 11 = .ok (.putfield 13, 3) := by decide +kernel
theorem dX8_init_14 : decode cX8_init 14 = .ok (.aload_n 0, 1) := by decide +kernel
theorem dX8_init_15 : decode cX8_init 15 = .ok (.bipush 117, 2) := by decide +kernel
theorem dX8_init_17 : decode cX8_init 17 = .ok (.newarray .int, 2) := by decide +kernel
theorem dX8_init_19 : decode cX8_init 19 = .ok (.putfield 16, 3) := by decide +kernel
theorem dX8_init_22 : decode cX8_init 22 = .ok (.aload_n 0, 1) := by decide +kernel
theorem dX8_init_23 : decode cX8_init 23 = .ok (.bipush 117, 2) := by decide +kernel
theorem dX8_init_25 : decode cX8_init 25 = .ok (.newarray .int, 2) := by decide +kernel
theorem dX8_init_27 : decode cX8_init 27 = .ok (.putfield 20, 3) := by decide +kernel
theorem dX8_init_30 : decode cX8_init 30 = .ok (.aload_n 0, 1) := by decide +kernel
theorem dX8_init_31 : decode cX8_init 31 = .ok (.bipush 117, 2) := by decide +kernel
theorem dX8_init_33 : decode cX8_init 33 = .ok (.newarray .int, 2) := by decide +kernel
theorem dX8_init_35 : decode cX8_init 35 = .ok (.putfield 23, 3) := by decide +kernel
theorem dX8_init_38 : decode cX8_init 38 = .ok (.aload_n 0, 1) := by decide +kernel
theorem dX8_init_39 : decode cX8_init 39 = .ok (.bipush 117, 2) := by decide +kernel
theorem dX8_init_41 : decode cX8_init 41 = .ok (.newarray .int, 2) := by decide +kernel
theorem dX8_init_43 : decode cX8_init 43 = .ok (.putfield 26, 3) := by decide +kernel
theorem dX8_init_46 : decode cX8_init 46 = .ok (.aload_n 0, 1) := by decide +kernel
theorem dX8_init_47 : decode cX8_init 47 = .ok (.sipush 936, 3) := by decide +kernel
theorem dX8_init_50 : decode cX8_init 50 = .ok (.newarray .int, 2) := by decide +kernel
theorem dX8_init_52 : decode cX8_init 52 = .ok (.putfield 29, 3) := by decide +kernel
theorem dX8_init_55 : decode cX8_init 55 = .ok (.aload_n 0, 1) := by decide +kernel
theorem dX8_init_56 : decode cX8_init 56 = .ok (.bipush 10, 2) := by decide +kernel
theorem dX8_init_58 : decode cX8_init 58 = .ok (.newarray .int, 2) := by decide +kernel
theorem dX8_init_60 : decode cX8_init 60 = .ok (.putfield 32, 3) := by decide +kernel
theorem dX8_init_63 : decode cX8_init 63 = .ok (.aload_n 0, 1) := by decide +kernel
theorem dX8_init_64 : decode cX8_init 64 = .ok (.bipush 60, 2) := by decide +kernel
theorem dX8_init_66 : decode cX8_init 66 = .ok (.newarray .int, 2) := by decide +kernel
theorem dX8_init_68 : decode cX8_init 68 = .ok (.putfield 35, 3) := by decide +kernel
theorem dX8_init_71 : decode cX8_init 71 = .ok (.aload_n 0, 1) := by decide +kernel
theorem dX8_init_72 : decode cX8_init 72 = .ok (.bipush 8, 2) := by decide +kernel
theorem dX8_init_74 : decode cX8_init 74 = .ok (.newarray .int, 2) := by decide +kernel
theorem dX8_init_76 : decode cX8_init 76 = .ok (.putfield 38, 3) := by decide +kernel
theorem dX8_init_79 : decode cX8_init 79 = .ok (.aload_n 0, 1) := by decide +kernel
theorem dX8_init_80 : decode cX8_init 80 = .ok (.bipush 11, 2) := by decide +kernel
theorem dX8_init_82 : decode cX8_init 82 = .ok (.newarray .int, 2) := by decide +kernel
theorem dX8_init_84 : decode cX8_init 84 = .ok (.putfield 41, 3) := by decide +kernel
theorem dX8_init_87 : decode cX8_init 87 = .ok (.aload_n 0, 1) := by decide +kernel
theorem dX8_init_88 : decode cX8_init 88 = .ok (.bipush 60, 2) := by decide +kernel
theorem dX8_init_90 : decode cX8_init 90 = .ok (.newarray .int, 2) := by decide +kernel
theorem dX8_init_92 : decode cX8_init 92 = .ok (.dup, 1) := by decide +kernel
theorem dX8_init_93 : decode cX8_init 93 = .ok (.iconst 0, 1) := by decide +kernel
theorem dX8_init_94 : decode cX8_init 94 = .ok (.bipush 97, 2) := by decide +kernel
theorem dX8_init_96 : decode cX8_init 96 = .ok (.iastore, 1) := by decide +kernel
theorem dX8_init_97 : decode cX8_init 97 = .ok (.dup, 1) := by decide +kernel
theorem dX8_init_98 : decode cX8_init 98 = .ok (.iconst 1, 1) := by decide +kernel
theorem dX8_init_99 : decode cX8_init 99 = .ok (.bipush 100, 2) := by decide +kernel
theorem dX8_init_101 : decode cX8_init 101 = .ok (.iastore, 1) := by decide +kernel
theorem dX8_init_102 : decode cX8_init 102 = .ok (.dup, 1) := by decide +kernel
theorem dX8_init_103 : decode cX8_init 103 = .ok (.iconst 2, 1) := by decide +kernel
theorem dX8_init_104 : decode cX8_init 104 = .ok (.bipush 100, 2) := by decide +kernel
theorem dX8_init_106 : decode cX8_init 106 = .ok (.iastore, 1) := by decide +kernel
theorem dX8_init_107 : decode cX8_init 107 = .ok (.dup, 1) := by decide +kernel
theorem dX8_init_108 : decode cX8_init 108 = .ok (.iconst 3, 1) := by decide +kernel
theorem dX8_init_109 : decode cX8_init 109 = .ok (.bipush 32, 2) := by decide +kernel
theorem dX8_init_111 : decode cX8_init 111 = .ok (.iastore, 1) := by decide +kernel
theorem dX8_init_112 : decode cX8_init 112 = .ok (.dup, 1) := by decide +kernel
theorem dX8_init_113 : decode cX8_init 113 = .ok (.iconst 4, 1) := by decide +kernel
theorem dX8_init_114 : decode cX8_init 114 = .ok (.bipush 112, 2) := by decide +kernel
theorem dX8_init_116 : decode cX8_init 116 = .ok (.iastore, 1) := by decide +kernel
theorem dX8_init_117 : decode cX8_init 117 = .ok (.dup, 1) := by decide +kernel
theorem dX8_init_118 : decode cX8_init 118 = .ok (.iconst 5, 1) := by decide +kernel
theorem dX8_init_119 : decode cX8_init 119 = .ok (.bipush 97, 2) := by decide +kernel
theorem dX8_init_121 : decode cX8_init 121 = .ok (.iastore, 1) := by decide +kernel
theorem dX8_init_122 : decode cX8_init 122 = .ok (.dup, 1) := by decide +kernel
theorem dX8_init_123 : decode cX8_init 123 = .ok (.bipush 6, 2) := by decide +kernel
theorem dX8_init_125 : decode cX8_init 125 = .ok (.bipush 100, 2) := by decide +kernel
theorem dX8_init_127 : decode cX8_init 127 = .ok (.iastore, 1) := by decide +kernel
theorem dX8_init_128 : decode cX8_init 128 = .ok (.dup, 1) := by decide +kernel
theorem dX8_init_129 : decode cX8_init 129 = .ok (.bipush 7, 2) := by decide +kernel
theorem dX8_init_131 : decode cX8_init 131 = .ok (.bipush 32, 2) := by decide +kernel
theorem dX8_init_133 : decode cX8_init 133 = .ok (.iastore, 1) := by decide +kernel
theorem dX8_init_134 : decode cX8_init 134 = .ok (.dup, 1) := by decide +kernel
theorem dX8_init_135 : decode cX8_init 135 = .ok (.bipush 8, 2) := by decide +kernel
theorem dX8_init_137 : decode cX8_init 137 = .ok (.bipush 111, 2) := by decide +kernel
theorem dX8_init_139 : decode cX8_init 139 = .ok (.iastore, 1) := by decide +kernel
theorem dX8_init_140 : decode cX8_init 140 = .ok (.dup, 1) := by decide +kernel
theorem dX8_init_141 : decode cX8_init 141 = .ok (.bipush 9, 2) := by decide +kernel
theorem dX8_init_143 : decode cX8_init 143 = .ok (.bipush 102, 2) := by decide +kernel
theorem dX8_init_145 : decode cX8_init 145 = .ok (.iastore, 1) := by decide +kernel
theorem dX8_init_146 : decode cX8_init 146 = .ok (.dup, 1) := by decide +kernel
theorem dX8_init_147 : decode cX8_init 147 = .ok (.bipush 10, 2) := by decide +kernel
theorem dX8_init_149 : decode cX8_init 149 = .ok (.bipush 102, 2) := by decide +kernel
theorem dX8_init_151 : decode cX8_init 151 = .ok (.iastore, 1) := by decide +kernel
theorem dX8_init_152 : decode cX8_init 152 = .ok (.dup, 1) := by decide +kernel
theorem dX8_init_153 : decode cX8_init 153 = .ok (.bipush 11, 2) := by decide +kernel
theorem dX8_init_155 : decode cX8_init 155 = .ok (.bipush 32, 2) := by decide +kernel
theorem dX8_init_157 : decode cX8_init 157 = .ok (.iastore, 1) := by decide +kernel
theorem dX8_init_158 : decode cX8_init 158 = .ok (.dup, 1) := by decide +kernel
theorem dX8_init_159 : decode cX8_init 159 = .ok (.bipush 12, 2) := by decide +kernel
theorem dX8_init_161 : decode cX8_init 161 = .ok (.bipush 108, 2) := by decide +kernel
theorem dX8_init_163 : decode cX8_init 163 = .ok (.iastore, 1) := by decide +kernel
theorem dX8_init_164 : decode cX8_init 164 = .ok (.dup, 1) := by decide +kernel
theorem dX8_init_165 : decode cX8_init 165 = .ok (.bipush 13, 2) := by decide +kernel
theorem dX8_init_167 : decode cX8_init 167 = .ok (.bipush 97, 2) := by decide +kernel
theorem dX8_init_169 : decode cX8_init 169 = .ok (.iastore, 1) := by decide +kernel
theorem dX8_init_170 : decode cX8_init 170 = .ok (.dup, 1) := by decide +kernel
theorem dX8_init_171 : decode cX8_init 171 = .ok (.bipush 14, 2) := by decide +kernel
theorem dX8_init_173 : decode cX8_init 173 = .ok (.bipush 110, 2) := by decide +kernel
theorem dX8_init_175 : decode cX8_init 175 = .ok (.iastore, 1) := by decide +kernel
theorem dX8_init_176 : decode cX8_init 176 = .ok (.dup, 1) := by decide +kernel
theorem dX8_init_177 : decode cX8_init 177 = .ok (.bipush 15, 2) := by decide +kernel
theorem dX8_init_179 : decode cX8_init 179 = .ok (.bipush 100, 2) := by decide +kernel
theorem dX8_init_181 : decode cX8_init 181 = .ok (.iastore, 1) := by decide +kernel
theorem dX8_init_182 : decode cX8_init 182 = .ok (.dup, 1) := by decide +kernel
theorem dX8_init_183 : decode cX8_init 183 = .ok (.bipush 16, 2) := by decide +kernel
theorem dX8_init_185 : decode cX8_init 185 = .ok (.bipush 32, 2) := by decide +kernel
theorem dX8_init_187 : decode cX8_init 187 = .ok (.iastore, 1) := by decide +kernel
theorem dX8_init_188 : decode cX8_init 188 = .ok (.dup, 1) := by decide +kernel
theorem dX8_init_189 : decode cX8_init 189 = .ok (.bipush 17, 2) := by decide +kernel
theorem dX8_init_191 : decode cX8_init 191 = .ok (.bipush 115, 2) := by decide +kernel
theorem dX8_init_193 : decode cX8_init 193 = .ok (.iastore, 1) := by decide +kernel
theorem dX8_init_194 : decode cX8_init 194 = .ok (.dup, 1) := by decide +kernel
theorem dX8_init_195 : decode cX8_init 195 = .ok (.bipush 18, 2) := by decide +kernel
theorem dX8_init_197 : decode cX8_init 197 = .ok (.bipush 101, 2) := by decide +kernel
theorem dX8_init_199 : decode cX8_init 199 = .ok (.iastore, 1) := by decide +kernel
theorem dX8_init_200 : decode cX8_init 200 = .ok (.dup, 1) := by decide +kernel
theorem dX8_init_201 : decode cX8_init 201 = .ok (.bipush 19, 2) := by decide +kernel
theorem dX8_init_203 : decode cX8_init 203 = .ok (.bipush 110, 2) := by decide +kernel
theorem dX8_init_205 : decode cX8_init 205 = .ok (.iastore, 1) := by decide +kernel
theorem dX8_init_206 : decode cX8_init 206 = .ok (.dup, 1) := by decide +kernel
theorem dX8_init_207 : decode cX8_init 207 = .ok (.bipush 20, 2) := by decide +kernel
theorem dX8_init_209 : decode cX8_init 209 = .ok (.bipush 100, 2) := by decide +kernel
theorem dX8_init_211 : decode cX8_init 211 = .ok (.iastore, 1) := by decide +kernel
theorem dX8_init_212 : decode cX8_init 212 = .ok (.dup, 1) := by decide +kernel
theorem dX8_init_213 : decode cX8_init 213 = .ok (.bipush 21, 2) := by decide +kernel
theorem dX8_init_215 : decode cX8_init 215 = .ok (.bipush 32, 2) := by decide +kernel
theorem dX8_init_217 : decode cX8_init 217 = .ok (.iastore, 1) := by decide +kernel
theorem dX8_init_218 : decode cX8_init 218 = .ok (.dup, 1) := by decide +kernel
theorem dX8_init_219 : decode cX8_init 219 = .ok (.bipush 22, 2) := by decide +kernel
theorem dX8_init_221 : decode cX8_init 221 = .ok (.bipush 114, 2) := by decide +kernel
theorem dX8_init_223 : decode cX8_init 223 = .ok (.iastore, 1) := by decide +kernel
theorem dX8_init_224 : decode cX8_init 224 = .ok (.dup, 1) := by decide +kernel
theorem dX8_init_225 : decode cX8_init 225 = .ok (.bipush 23, 2) := by decide +kernel
theorem dX8_init_227 : decode cX8_init 227 = .ok (.bipush 101, 2) := by decide +kernel
theorem dX8_init_229 : decode cX8_init 229 = .ok (.iastore, 1) := by decide +kernel
theorem dX8_init_230 : decode cX8_init 230 = .ok (.dup, 1) := by decide +kernel
theorem dX8_init_231 : decode cX8_init 231 = .ok (.bipush 24, 2) := by decide +kernel
theorem dX8_init_233 : decode cX8_init 233 = .ok (.bipush 115, 2) := by decide +kernel
theorem dX8_init_235 : decode cX8_init 235 = .ok (.iastore, 1) := by decide +kernel
theorem dX8_init_236 : decode cX8_init 236 = .ok (.dup, 1) := by decide +kernel
theorem dX8_init_237 : decode cX8_init 237 = .ok (.bipush 25, 2) := by decide +kernel
theorem dX8_init_239 : decode cX8_init 239 = .ok (.bipush 101, 2) := by decide +kernel
theorem dX8_init_241 : decode cX8_init 241 = .ok (.iastore, 1) := by decide +kernel
theorem dX8_init_242 : decode cX8_init 242 = .ok (.dup, 1) := by decide +kernel
theorem dX8_init_243 : decode cX8_init 243 = .ok (.bipush 26, 2) := by decide +kernel
theorem dX8_init_245 : decode cX8_init 245 = .ok (.bipush 114, 2) := by decide +kernel
theorem dX8_init_247 : decode cX8_init 247 = .ok (.iastore, 1) := by decide +kernel
theorem dX8_init_248 : decode cX8_init 248 = .ok (.dup, 1) := by decide +kernel
theorem dX8_init_249 : decode cX8_init 249 = .ok (.bipush 27, 2) := by decide +kernel
theorem dX8_init_251 : decode cX8_init 251 = .ok (.bipush 118, 2) := by decide +kernel
theorem dX8_init_253 : decode cX8_init 253 = .ok (.iastore, 1) := by decide +kernel
theorem dX8_init_254 : decode cX8_init 254 = .ok (.dup, 1) := by decide +kernel
theorem dX8_init_255 : decode cX8_init 255 = .ok (.bipush 28, 2) := by decide +kernel
theorem dX8_init_257 : decode cX8_init 257 = .ok (.bipush 101, 2) := by decide +kernel
theorem dX8_init_259 : decode cX8_init 259 = .ok (.iastore, 1) := by decide +kernel
theorem dX8_init_260 : decode cX8_init 260 = .ok (.dup, 1) := by decide +kernel
theorem dX8_init_261 : decode cX8_init 261 = .ok (.bipush 29, 2) := by decide +kernel
theorem dX8_init_263 : decode cX8_init 263 = .ok (.bipush 32, 2) := by decide +kernel
theorem dX8_init_265 : decode cX8_init 265 = .ok (.iastore, 1) := by decide +kernel
theorem dX8_init_266 : decode cX8_init 266 = .ok (.dup, 1) := by decide +kernel
theorem dX8_init_267 : decode cX8_init 267 = .ok (.bipush 30, 2) := by decide +kernel
theorem dX8_init_269 : decode cX8_init 269 = .ok (.bipush 102, 2) := by decide +kernel
theorem dX8_init_271 : decode cX8_init 271 = .ok (.iastore, 1) := by decide +kernel
theorem dX8_init_272 : decode cX8_init 272 = .ok (.dup, 1) := by decide +kernel
theorem dX8_init_273 : decode cX8_init 273 = .ok (.bipush 31, 2) := by decide +kernel
theorem dX8_init_275 : decode cX8_init 275 = .ok (.bipush 111, 2) := by decide +kernel
theorem dX8_init_277 : decode cX8_init 277 = .ok (.iastore, 1) := by decide +kernel
theorem dX8_init_278 : decode cX8_init 278 = .ok (.dup, 1) := by decide +kernel
theorem dX8_init_279 : decode cX8_init 279 = .ok (.bipush 32, 2) := by decide +kernel
theorem dX8_init_281 : decode cX8_init 281 = .ok (.bipush 114, 2) := by decide +kernel
theorem dX8_init_283 : decode cX8_init 283 = .ok (.iastore, 1) := by decide +kernel
theorem dX8_init_284 : decode cX8_init 284 = .ok (.dup, 1) := by decide +kernel
theorem dX8_init_285 : decode cX8_init 285 = .ok (.bipush 33, 2) := by decide +kernel
theorem dX8_init_287 : decode cX8_init 287 = .ok (.bipush 109, 2) := by decide +kernel
theorem dX8_init_289 : decode cX8_init 289 = .ok (.iastore, 1) := by decide +kernel
theorem dX8_init_290 : decode cX8_init 290 = .ok (.dup, 1) := by decide +kernel
theorem dX8_init_291 : decode cX8_init 291 = .ok (.bipush 34, 2) := by decide +kernel
theorem dX8_init_293 : decode cX8_init 293 = .ok (.bipush 32, 2) := by decide +kernel
theorem dX8_init_295 : decode cX8_init 295 = .ok (.iastore, 1) := by decide +kernel
theorem dX8_init_296 : decode cX8_init 296 = .ok (.dup, 1) := by decide +kernel
theorem dX8_init_297 : decode cX8_init 297 = .ok (.bipush 35, 2) := by decide +kernel
theorem dX8_init_299 : decode cX8_init 299 = .ok (.bipush 99, 2) := by decide +kernel
theorem dX8_init_301 : decode cX8_init 301 = .ok (.iastore, 1) := by decide +kernel
theorem dX8_init_302 : decode cX8_init 302 = .ok (.dup, 1) := by decide +kernel
theorem dX8_init_303 : decode cX8_init 303 = .ok (.bipush 36, 2) := by decide +kernel
theorem dX8_init_305 : decode cX8_init 305 = .ok (.bipush 108, 2) := by decide +kernel
theorem dX8_init_307 : decode cX8_init 307 = .ok (.iastore, 1) := by decide +kernel
theorem dX8_init_308 : decode cX8_init 308 = .ok (.dup, 1) := by decide +kernel
theorem dX8_init_309 : decode cX8_init 309 = .ok (.bipush 37, 2) := by decide +kernel
theorem dX8_init_311 : decode cX8_init 311 = .ok (.bipush 101, 2) := by decide +kernel
theorem dX8_init_313 : decode cX8_init 313 = .ok (.iastore, 1) := by decide +kernel
theorem dX8_init_314 : decode cX8_init 314 = .ok (.dup, 1) := by decide +kernel
theorem dX8_init_315 : decode cX8_init 315 = .ok (.bipush 38, 2) := by decide +kernel
theorem dX8_init_317 : decode cX8_init 317 = .ok (.bipush 97, 2) := by decide +kernel
theorem dX8_init_319 : decode cX8_init 319 = .ok (.iastore, 1) := by decide +kernel
theorem dX8_init_320 : decode cX8_init 320 = .ok (.dup, 1) := by decide +kernel
theorem dX8_init_321 : decode cX8_init 321 = .ok (.bipush 39, 2) := by decide +kernel
theorem dX8_init_323 : decode cX8_init 323 = .ok (.bipush 114, 2) := by decide +kernel
theorem dX8_init_325 : decode cX8_init 325 = .ok (.iastore, 1) := by decide +kernel
theorem dX8_init_326 : decode cX8_init 326 = .ok (.dup, 1) := by decide +kernel
theorem dX8_init_327 : decode cX8_init 327 = .ok (.bipush 40, 2) := by decide +kernel
theorem dX8_init_329 : decode cX8_init 329 = .ok (.bipush 32, 2) := by decide +kernel
theorem dX8_init_331 : decode cX8_init 331 = .ok (.iastore, 1) := by decide +kernel
theorem dX8_init_332 : decode cX8_init 332 = .ok (.dup, 1) := by decide +kernel
theorem dX8_init_333 : decode cX8_init 333 = .ok (.bipush 41, 2) := by decide +kernel
theorem dX8_init_335 : decode cX8_init 335 = .ok (.bipush 97, 2) := by decide +kernel
theorem dX8_init_337 : decode cX8_init 337 = .ok (.iastore, 1) := by decide +kernel
theorem dX8_init_338 : decode cX8_init 338 = .ok (.dup, 1) := by decide +kernel
theorem dX8_init_339 : decode cX8_init 339 = .ok (.bipush 42, 2) := by decide +kernel
theorem dX8_init_341 : decode cX8_init 341 = .ok (.bipush 115, 2) := by decide +kernel
theorem dX8_init_343 : decode cX8_init 343 = .ok (.iastore, 1) := by decide +kernel
theorem dX8_init_344 : decode cX8_init 344 = .ok (.dup, 1) := by decide +kernel
theorem dX8_init_345 : decode cX8_init 345 = .ok (.bipush 43, 2) := by decide +kernel
theorem dX8_init_347 : decode cX8_init 347 = .ok (.bipush 115, 2) := by decide +kernel
theorem dX8_init_349 : decode cX8_init 349 = .ok (.iastore, 1) := by decide +kernel
theorem dX8_init_350 : decode cX8_init 350 = .ok (.dup, 1) := by decide +kernel
theorem dX8_init_351 : decode cX8_init 351 = .ok (.bipush 44, 2) := by decide +kernel
theorem dX8_init_353 : decode cX8_init 353 = .ok (.bipush 105, 2) := by decide +kernel
theorem dX8_init_355 : decode cX8_init 355 = .ok (.iastore, 1) := by decide +kernel
theorem dX8_init_356 : decode cX8_init 356 = .ok (.dup, 1) := by decide +kernel
theorem dX8_init_357 : decode cX8_init 357 = .ok (.bipush 45, 2) := by decide +kernel
theorem dX8_init_359 : decode cX8_init 359 = .ok (.bipush 103, 2) := by decide +kernel
theorem dX8_init_361 : decode cX8_init 361 = .ok (.iastore, 1) := by decide +kernel
theorem dX8_init_362 : decode cX8_init 362 = .ok (.dup, 1) := by decide +kernel
theorem dX8_init_363 : decode cX8_init 363 = .ok (.bipush 46, 2) := by decide +kernel
theorem dX8_init_365 : decode cX8_init 365 = .ok (.bipush 110, 2) := by decide +kernel
theorem dX8_init_367 : decode cX8_init 367 = .ok (.iastore, 1) := by decide +kernel
theorem dX8_init_368 : decode cX8_init 368 = .ok (.dup, 1) := by decide +kernel
theorem dX8_init_369 : decode cX8_init 369 = .ok (.bipush 47, 2) := by decide +kernel
theorem dX8_init_371 : decode cX8_init 371 = .ok (.bipush 32, 2) := by decide +kernel
theorem dX8_init_373 : decode cX8_init 373 = .ok (.iastore, 1) := by decide +kernel
theorem dX8_init_374 : decode cX8_init 374 = .ok (.dup, 1) := by decide +kernel
theorem dX8_init_375 : decode cX8_init 375 = .ok (.bipush 48, 2) := by decide +kernel
theorem dX8_init_377 : decode cX8_init 377 = .ok (.bipush 116, 2) := by decide +kernel
theorem dX8_init_379 : decode cX8_init 379 = .ok (.iastore, 1) := by decide +kernel
theorem dX8_init_380 : decode cX8_init 380 = .ok (.dup, 1) := by decide +kernel
theorem dX8_init_381 : decode cX8_init 381 = .ok (.bipush 49, 2) := by decide +kernel
theorem dX8_init_383 : decode cX8_init 383 = .ok (.bipush 105, 2) := by decide +kernel
theorem dX8_init_385 : decode cX8_init 385 = .ok (.iastore, 1) := by decide +kernel
theorem dX8_init_386 : decode cX8_init 386 = .ok (.dup, 1) := by decide +kernel
theorem dX8_init_387 : decode cX8_init 387 = .ok (.bipush 50, 2) := by decide +kernel
theorem dX8_init_389 : decode cX8_init 389 = .ok (.bipush 99, 2) := by decide +kernel
theorem dX8_init_391 : decode cX8_init 391 = .ok (.iastore, 1) := by decide +kernel
theorem dX8_init_392 : decode cX8_init 392 = .ok (.dup, 1) := by decide +kernel
theorem dX8_init_393 : decode cX8_init 393 = .ok (.bipush 51, 2) := by decide +kernel
theorem dX8_init_395 : decode cX8_init 395 = .ok (.bipush 107, 2) := by decide +kernel
theorem dX8_init_397 : decode cX8_init 397 = .ok (.iastore, 1) := by decide +kernel
theorem dX8_init_398 : decode cX8_init 398 = .ok (.dup, 1) := by decide +kernel
theorem dX8_init_399 : decode cX8_init 399 = .ok (.bipush 52, 2) := by decide +kernel
theorem dX8_init_401 : decode cX8_init 401 = .ok (.bipush 32, 2) := by decide +kernel
theorem dX8_init_403 : decode cX8_init 403 = .ok (.iastore, 1) := by decide +kernel
theorem dX8_init_404 : decode cX8_init 404 = .ok (.dup, 1) := by decide +kernel
theorem dX8_init_405 : decode cX8_init 405 = .ok (.bipush 53, 2) := by decide +kernel
theorem dX8_init_407 : decode cX8_init 407 = .ok (.bipush 99, 2) := by decide +kernel
theorem dX8_init_409 : decode cX8_init 409 = .ok (.iastore, 1) := by decide +kernel
theorem dX8_init_410 : decode cX8_init 410 = .ok (.dup, 1) := by decide +kernel
theorem dX8_init_411 : decode cX8_init 411 = .ok (.bipush 54, 2) := by decide +kernel
theorem dX8_init_413 : decode cX8_init 413 = .ok (.bipush 111, 2) := by decide +kernel
theorem dX8_init_415 : decode cX8_init 415 = .ok (.iastore, 1) := by decide +kernel
theorem dX8_init_416 : decode cX8_init 416 = .ok (.dup, 1) := by decide +kernel
theorem dX8_init_417 : decode cX8_init 417 = .ok (.bipush 55, 2) := by decide +kernel
theorem dX8_init_419 : decode cX8_init 419 = .ok (.bipush 108, 2) := by decide +kernel
theorem dX8_init_421 : decode cX8_init 421 = .ok (.iastore, 1) := by decide +kernel
theorem dX8_init_422 : decode cX8_init 422 = .ok (.dup, 1) := by decide +kernel
theorem dX8_init_423 : decode cX8_init 423 = .ok (.bipush 56, 2) := by decide +kernel
theorem dX8_init_425 : decode cX8_init 425 = .ok (.bipush 111, 2) := by decide +kernel
theorem dX8_init_427 : decode cX8_init 427 = .ok (.iastore, 1) := by decide +kernel
theorem dX8_init_428 : decode cX8_init 428 = .ok (.dup, 1) := by decide +kernel
theorem dX8_init_429 : decode cX8_init 429 = .ok (.bipush 57, 2) := by decide +kernel
theorem dX8_init_431 : decode cX8_init 431 = .ok (.bipush 117, 2) := by decide +kernel
theorem dX8_init_433 : decode cX8_init 433 = .ok (.iastore, 1) := by decide +kernel
theorem dX8_init_434 : decode cX8_init 434 = .ok (.dup, 1) := by decide +kernel
theorem dX8_init_435 : decode cX8_init 435 = .ok (.bipush 58, 2) := by decide +kernel
theorem dX8_init_437 : decode cX8_init 437 = .ok (.bipush 114, 2) := by decide +kernel
theorem dX8_init_439 : decode cX8_init 439 = .ok (.iastore, 1) := by decide +kernel
theorem dX8_init_440 : decode cX8_init 440 = .ok (.dup, 1) := by decide +kernel
theorem dX8_init_441 : decode cX8_init 441 = .ok (.bipush 59, 2) := by decide +kernel
theorem dX8_init_443 : decode cX8_init 443 = .ok (.bipush 32, 2) := by decide +kernel
theorem dX8_init_445 : decode cX8_init 445 = .ok (.iastore, 1) := by decide +kernel
theorem dX8_init_446 : decode cX8_init 446 = .ok (.putfield 44, 3) := by decide +kernel
theorem dX8_init_449 : decode cX8_init 449 = .ok (.aload_n 0, 1) := by decide +kernel
theorem dX8_init_450 : decode cX8_init 450 = .ok (.bipush 12, 2) := by decide +kernel
theorem dX8_init_452 : decode cX8_init 452 = .ok (.newarray .int, 2) := by decide +kernel
theorem dX8_init_454 : decode cX8_init 454 = .ok (.dup, 1) := by decide +kernel
theorem dX8_init_455 : decode cX8_init 455 = .ok (.iconst 0, 1) := by decide +kernel
theorem dX8_init_456 : decode cX8_init 456 = .ok (.iconst 0, 1) := by decide +kernel
theorem dX8_init_457 : decode cX8_init 457 = .ok (.iastore, 1) := by decide +kernel
theorem dX8_init_458 : decode cX8_init 458 = .ok (.dup, 1) := by decide +kernel
theorem dX8_init_459 : decode cX8_init 459 = .ok (.iconst 1, 1) := by decide +kernel
theorem dX8_init_460 : decode cX8_init 460 = .ok (.iconst 4, 1) := by decide +kernel
theorem dX8_init_461 : decode cX8_init 461 = .ok (.iastore, 1) := by decide +kernel
theorem dX8_init_462 : decode cX8_init 462 = .ok (.dup, 1) := by decide +kernel
theorem dX8_init_463 : decode cX8_init 463 = .ok (.iconst 2, 1) := by decide +kernel
theorem dX8_init_464 : decode cX8_init 464 = .ok (.bipush 8, 2) := by decide +kernel
theorem dX8_init_466 : decode cX8_init 466 = .ok (.iastore, 1) := by decide +kernel
theorem dX8_init_467 : decode cX8_init 467 = .ok (.dup, 1) := by decide +kernel
theorem dX8_init_468 : decode cX8_init 468 = .ok (.iconst 3, 1) := by decide +kernel
theorem dX8_init_469 : decode cX8_init 469 = .ok (.bipush 12, 2) := by decide +kernel
theorem dX8_init_471 : decode cX8_init 471 = .ok (.iastore, 1) := by decide +kernel
theorem dX8_init_472 : decode cX8_init 472 = .ok (.dup, 1) := by decide +kernel
theorem dX8_init_473 : decode cX8_init 473 = .ok (.iconst 4, 1) := by decide +kernel
theorem dX8_init_474 : decode cX8_init 474 = .ok (.bipush 17, 2) := by decide +kernel
theorem dX8_init_476 : decode cX8_init 476 = .ok (.iastore, 1) := by decide +kernel
theorem dX8_init_477 : decode cX8_init 477 = .ok (.dup, 1) := by decide +kernel
theorem dX8_init_478 : decode cX8_init 478 = .ok (.iconst 5, 1) := by decide +kernel
theorem dX8_init_479 : decode cX8_init 479 = .ok (.bipush 22, 2) := by decide +kernel
theorem dX8_init_481 : decode cX8_init 481 = .ok (.iastore, 1) := by decide +kernel
theorem dX8_init_482 : decode cX8_init 482 = .ok (.dup, 1) := by decide +kernel
theorem dX8_init_483 : decode cX8_init 483 = .ok (.bipush 6, 2) := by decide +kernel
theorem dX8_init_485 : decode cX8_init 485 = .ok (.bipush 30, 2) := by decide +kernel
theorem dX8_init_487 : decode cX8_init 487 = .ok (.iastore, 1) := by decide +kernel
theorem dX8_init_488 : decode cX8_init 488 = .ok (.dup, 1) := by decide +kernel
theorem dX8_init_489 : decode cX8_init 489 = .ok (.bipush 7, 2) := by decide +kernel
theorem dX8_init_491 : decode cX8_init 491 = .ok (.bipush 35, 2) := by decide +kernel
theorem dX8_init_493 : decode cX8_init 493 = .ok (.iastore, 1) := by decide +kernel
theorem dX8_init_494 : decode cX8_init 494 = .ok (.dup, 1) := by decide +kernel
theorem dX8_init_495 : decode cX8_init 495 = .ok (.bipush 8, 2) := by decide +kernel
theorem dX8_init_497 : decode cX8_init 497 = .ok (.bipush 41, 2) := by decide +kernel
theorem dX8_init_499 : decode cX8_init 499 = .ok (.iastore, 1) := by decide +kernel
theorem dX8_init_500 : decode cX8_init 500 = .ok (.dup, 1) := by decide +kernel
theorem dX8_init_501 : decode cX8_init 501 = .ok (.bipush 9, 2) := by decide +kernel
theorem dX8_init_503 : decode cX8_init 503 = .ok (.bipush 48, 2) := by decide +kernel
theorem dX8_init_505 : decode cX8_init 505 = .ok (.iastore, 1) := by decide +kernel
theorem dX8_init_506 : decode cX8_init 506 = .ok (.dup, 1) := by decide +kernel
theorem dX8_init_507 : decode cX8_init 507 = .ok (.bipush 10, 2) := by decide +kernel
theorem dX8_init_509 : decode cX8_init 509 = .ok (.bipush 53, 2) := by decide +kernel
theorem dX8_init_511 : decode cX8_init 511 = .ok (.iastore, 1) := by decide +kernel
theorem dX8_init_512 : decode cX8_init 512 = .ok (.dup, 1) := by decide +kernel
theorem dX8_init_513 : decode cX8_init 513 = .ok (.bipush 11, 2) := by decide +kernel
theorem dX8_init_515 : decode cX8_init 515 = .ok (.bipush 60, 2) := by decide +kernel
theorem dX8_init_517 : decode cX8_init 517 = .ok (.iastore, 1) := by decide +kernel
theorem dX8_init_518 : decode cX8_init 518 = .ok (.putfield 47, 3) := by decide +kernel
theorem dX8_init_521 : decode cX8_init 521 = .ok (.aload_n 0, 1) := by decide +kernel
theorem dX8_init_522 : decode cX8_init 522 = .ok (.getfield 16, 3) := by decide +kernel
theorem dX8_init_525 : decode cX8_init 525 = .ok (.iconst 2, 1) := by decide +kernel
theorem dX8_init_526 : decode cX8_init 526 = .ok (.bipush 10, 2) := by decide +kernel
theorem dX8_init_528 : decode cX8_init 528 = .ok (.iastore, 1) := by decide +kernel
theorem dX8_init_529 : decode cX8_init 529 = .ok (.return_, 1) := by decide +kernel
theorem dX8_thrown_0 : decode cX8_thrown 0 = .ok (.aload_n 0, 1) := by decide +kernel
theorem dX8_thrown_1 : decode cX8_thrown 1 = .ok (.getfield 50, 3) := by decide +kernel
theorem dX8_thrown_4 : decode cX8_thrown 4 = .ok (.ireturn, 1) := by decide +kernel
theorem dX8_fail_0 : decode cX8_fail 0 = .ok (.aload_n 0, 1) := by decide +kernel
theorem dX8_fail_1 : decode cX8_fail 1 = .ok (.iload_n 1, 1) := by decide +kernel
theorem dX8_fail_2 : decode cX8_fail 2 = .ok (.putfield 50, 3) := by decide +kernel
theorem dX8_fail_5 : decode cX8_fail 5 = .ok (.iconst 0, 1) := by decide +kernel
theorem dX8_fail_6 : decode cX8_fail 6 = .ok (.ireturn, 1) := by decide +kernel
theorem dX8_isIn_0 : decode cX8_isIn 0 = .ok (.iload_n 0, 1) := by decide +kernel
theorem dX8_isIn_1 : decode cX8_isIn 1 = .ok (.iload_n 1, 1) := by decide +kernel
theorem dX8_isIn_2 : decode cX8_isIn 2 = .ok (.if_icmp .lt 12, 3) := by decide +kernel
theorem dX8_isIn_5 : decode cX8_isIn 5 = .ok (.iload_n 0, 1) := by decide +kernel
theorem dX8_isIn_6 : decode cX8_isIn 6 = .ok (.iload_n 2, 1) := by decide +kernel
theorem dX8_isIn_7 : decode cX8_isIn 7 = .ok (.if_icmp .gt 7, 3) := by decide +kernel
theorem dX8_isIn_10 : decode cX8_isIn 10 = .ok (.iconst 1, 1) := by decide +kernel
theorem dX8_isIn_11 : decode cX8_isIn 11 = .ok (.goto 4, 3) := by decide +kernel
theorem dX8_isIn_14 : decode cX8_isIn 14 = .ok (.iconst 0, 1) := by decide +kernel
theorem dX8_isIn_15 : decode cX8_isIn 15 = .ok (.ireturn, 1) := by decide +kernel
theorem dX8_lays_0 : decode cX8_lays 0 = .ok (.iconst 0, 1) := by decide +kernel
theorem dX8_lays_1 : decode cX8_lays 1 = .ok (.istore_n 2, 1) := by decide +kernel
theorem dX8_lays_2 : decode cX8_lays 2 = .ok (.iload_n 2, 1) := by decide +kernel
theorem dX8_lays_3 : decode cX8_lays 3 = .ok (.bipush 117, 2) := by decide +kernel
theorem dX8_lays_5 : decode cX8_lays 5 = .ok (.if_icmp .ge 15, 3) := by decide +kernel
theorem dX8_lays_8 : decode cX8_lays 8 = .ok (.aload_n 0, 1) := by decide +kernel
theorem dX8_lays_9 : decode cX8_lays 9 = .ok (.iload_n 2, 1) := by decide +kernel
theorem dX8_lays_10 : decode cX8_lays 10 = .ok (.aload_n 1, 1) := by decide +kernel
theorem dX8_lays_11 : decode cX8_lays 11 = .ok (.iload_n 2, 1) := by decide +kernel
theorem dX8_lays_12 : decode cX8_lays 12 = .ok (.iaload, 1) := by decide +kernel
theorem dX8_lays_13 : decode cX8_lays 13 = .ok (.iastore, 1) := by decide +kernel
theorem dX8_lays_14 : decode cX8_lays 14 = .ok (.iinc 2 1, 3) := by decide +kernel
theorem dX8_lays_17 : decode cX8_lays 17 = .ok (.goto (-15), 3) := by decide +kernel
theorem dX8_lays_20 : decode cX8_lays 20 = .ok (.return_, 1) := by decide +kernel
theorem dX8_begins_0 : decode cX8_begins 0 = .ok (.aload_n 0, 1) := by decide +kernel
theorem dX8_begins_1 : decode cX8_begins 1 = .ok (.iconst 0, 1) := by decide +kernel
theorem dX8_begins_2 : decode cX8_begins 2 = .ok (.putfield 50, 3) := by decide +kernel
theorem dX8_begins_5 : decode cX8_begins 5 = .ok (.aload_n 0, 1) := by decide +kernel
theorem dX8_begins_6 : decode cX8_begins 6 = .ok (.getfield 20, 3) := by decide +kernel
theorem dX8_begins_9 : decode cX8_begins 9 = .ok (.aload_n 0, 1) := by decide +kernel
theorem dX8_begins_10 : decode cX8_begins 10 = .ok (.getfield 16, 3) := by decide +kernel
theorem dX8_begins_13 : decode cX8_begins 13 = .ok (.invokestatic 53, 3) := by decide +kernel
theorem dX8_begins_16 : decode cX8_begins 16 = .ok (.return_, 1) := by decide +kernel
theorem dX8_ends_0 : decode cX8_ends 0 = .ok (.aload_n 0, 1) := by decide +kernel
theorem dX8_ends_1 : decode cX8_ends 1 = .ok (.getfield 50, 3) := by decide +kernel
theorem dX8_ends_4 : decode cX8_ends 4 = .ok (.ifCond .eq 16, 3) := by decide +kernel
theorem dX8_ends_7 : decode cX8_ends 7 = .ok (.aload_n 0, 1) := by decide +kernel
theorem dX8_ends_8 : decode cX8_ends 8 = .ok (.getfield 16, 3) := by decide +kernel
theorem dX8_ends_11 : decode cX8_ends 11 = .ok (.aload_n 0, 1) := by decide +kernel
theorem dX8_ends_12 : decode cX8_ends 12 = .ok (.getfield 20, 3) := by decide +kernel
theorem dX8_ends_15 : decode cX8_ends 15 = .ok (.invokestatic 53, 3) := by decide +kernel
theorem dX8_ends_18 : decode cX8_ends 18 = .ok (.iconst 0, 1) := by decide +kernel
theorem dX8_ends_19 : decode cX8_ends 19 = .ok (.ireturn, 1) := by decide +kernel
theorem dX8_ends_20 : decode cX8_ends 20 = .ok (.aload_n 0, 1) := by decide +kernel
theorem dX8_ends_21 : decode cX8_ends 21 = .ok (.getfield 57, 3) := by decide +kernel
theorem dX8_ends_24 : decode cX8_ends 24 = .ok (.bipush 8, 2) := by decide +kernel
theorem dX8_ends_26 : decode cX8_ends 26 = .ok (.if_icmp .ne 43, 3) := by decide +kernel
theorem dX8_ends_29 : decode cX8_ends 29 = .ok (.iconst 0, 1) := by decide +kernel
theorem dX8_ends_30 : decode cX8_ends 30 = .ok (.istore_n 2, 1) := by decide +kernel
theorem dX8_ends_31 : decode cX8_ends 31 = .ok (.iload_n 2, 1) := by decide +kernel
theorem dX8_ends_32 : decode cX8_ends 32 = .ok (.sipush 819, 3) := by decide +kernel
theorem dX8_ends_35 : decode cX8_ends 35 = .ok (.if_icmp .ge 24, 3) := by decide +kernel
theorem dX8_ends_38 : decode cX8_ends 38 = .ok (.aload_n 0, 1) := by decide +kernel
theorem dX8_ends_39 : decode cX8_ends 39 = .ok (.getfield 29, 3) := by decide +kernel
theorem dX8_ends_42 : decode cX8_ends 42 = .ok (.iload_n 2, 1) := by decide +kernel
theorem dX8_ends_43 : decode cX8_ends 43 = .ok (.aload_n 0, 1) := by decide +kernel
theorem dX8_ends_44 : decode cX8_ends 44 = .ok (.getfield 29, 3) := by decide +kernel
theorem dX8_ends_47 : decode cX8_ends 47 = .ok (.iload_n 2, 1) := by decide +kernel
theorem dX8_ends_48 : decode cX8_ends 48 = .ok (.bipush 117, 2) := by decide +kernel
theorem dX8_ends_50 : decode cX8_ends 50 = .ok (.iadd, 1) := by decide +kernel
theorem dX8_ends_51 : decode cX8_ends 51 = .ok (.iaload, 1) := by decide +kernel
theorem dX8_ends_52 : decode cX8_ends 52 = .ok (.iastore, 1) := by decide +kernel
theorem dX8_ends_53 : decode cX8_ends 53 = .ok (.iinc 2 1, 3) := by decide +kernel
theorem dX8_ends_56 : decode cX8_ends 56 = .ok (.goto (-25), 3) := by decide +kernel
theorem dX8_ends_59 : decode cX8_ends 59 = .ok (.aload_n 0, 1) := by decide +kernel
theorem dX8_ends_60 : decode cX8_ends 60 = .ok (.dup, 1) := by decide +kernel
theorem dX8_ends_61 : decode cX8_ends 61 = .ok (.getfield 57, 3) := by decide +kernel
theorem dX8_ends_64 : decode cX8_ends 64 = .ok (.iconst 1, 1) := by decide +kernel
theorem dX8_ends_65 : decode cX8_ends 65 = .ok (.isub, 1) := by decide +kernel
theorem dX8_ends_66 : decode cX8_ends 66 = .ok (.putfield 57, 3) := by decide +kernel
theorem dX8_ends_69 : decode cX8_ends 69 = .ok (.iconst 0, 1) := by decide +kernel
theorem dX8_ends_70 : decode cX8_ends 70 = .ok (.istore_n 2, 1) := by decide +kernel
theorem dX8_ends_71 : decode cX8_ends 71 = .ok (.iload_n 2, 1) := by decide +kernel
theorem dX8_ends_72 : decode cX8_ends 72 = .ok (.bipush 117, 2) := by decide +kernel
theorem dX8_ends_74 : decode cX8_ends 74 = .ok (.if_icmp .ge 29, 3) := by decide +kernel
theorem dX8_ends_77 : decode cX8_ends 77 = .ok (.aload_n 0, 1) := by decide +kernel
theorem dX8_ends_78 : decode cX8_ends 78 = .ok (.getfield 29, 3) := by decide +kernel
theorem dX8_ends_81 : decode cX8_ends 81 = .ok (.aload_n 0, 1) := by decide +kernel
theorem dX8_ends_82 : decode cX8_ends 82 = .ok (.getfield 57, 3) := by decide +kernel
theorem dX8_ends_85 : decode cX8_ends 85 = .ok (.bipush 117, 2) := by decide +kernel
theorem dX8_ends_87 : decode cX8_ends 87 = .ok (.imul, 1) := by decide +kernel
theorem dX8_ends_88 : decode cX8_ends 88 = .ok (.iload_n 2, 1) := by decide +kernel
theorem dX8_ends_89 : decode cX8_ends 89 = .ok (.iadd, 1) := by decide +kernel
theorem dX8_ends_90 : decode cX8_ends 90 = .ok (.aload_n 0, 1) := by decide +kernel
theorem dX8_ends_91 : decode cX8_ends 91 = .ok (.getfield 20, 3) := by decide +kernel
theorem dX8_ends_94 : decode cX8_ends 94 = .ok (.iload_n 2, 1) := by decide +kernel
theorem dX8_ends_95 : decode cX8_ends 95 = .ok (.iaload, 1) := by decide +kernel
theorem dX8_ends_96 : decode cX8_ends 96 = .ok (.iastore, 1) := by decide +kernel
theorem dX8_ends_97 : decode cX8_ends 97 = .ok (.iinc 2 1, 3) := by decide +kernel
theorem dX8_ends_100 : decode cX8_ends 100 = .ok (.goto (-29), 3) := by decide +kernel
theorem dX8_ends_103 : decode cX8_ends 103 = .ok (.aload_n 0, 1) := by decide +kernel
theorem dX8_ends_104 : decode cX8_ends 104 = .ok (.dup, 1) := by decide +kernel
theorem dX8_ends_105 : decode cX8_ends 105 = .ok (.getfield 57, 3) := by decide +kernel
theorem dX8_ends_108 : decode cX8_ends 108 = .ok (.iconst 1, 1) := by decide +kernel
theorem dX8_ends_109 : decode cX8_ends 109 = .ok (.iadd, 1) := by decide +kernel
theorem dX8_ends_110 : decode cX8_ends 110 = .ok (.putfield 57, 3) := by decide +kernel
theorem dX8_ends_113 : decode cX8_ends 113 = .ok (.iload_n 1, 1) := by decide +kernel
theorem dX8_ends_114 : decode cX8_ends 114 = .ok (.ireturn, 1) := by decide +kernel
theorem dX8_isCell_0 : decode cX8_isCell 0 = .ok (.iload_n 0, 1) := by decide +kernel
theorem dX8_isCell_1 : decode cX8_isCell 1 = .ok (.iconst 0, 1) := by decide +kernel
theorem dX8_isCell_2 : decode cX8_isCell 2 = .ok (.bipush 63, 2) := by decide +kernel
theorem dX8_isCell_4 : decode cX8_isCell 4 = .ok (.invokestatic 60, 3) := by decide +kernel
theorem dX8_isCell_7 : decode cX8_isCell 7 = .ok (.ireturn, 1) := by decide +kernel
theorem dX8_isDrone_0 : decode cX8_isDrone 0 = .ok (.iload_n 1, 1) := by decide +kernel
theorem dX8_isDrone_1 : decode cX8_isDrone 1 = .ok (.iconst 0, 1) := by decide +kernel
theorem dX8_isDrone_2 : decode cX8_isDrone 2 = .ok (.aload_n 0, 1) := by decide +kernel
theorem dX8_isDrone_3 : decode cX8_isDrone 3 = .ok (.getfield 16, 3) := by decide +kernel
theorem dX8_isDrone_6 : decode cX8_isDrone 6 = .ok (.iconst 0, 1) := by decide +kernel
theorem dX8_isDrone_7 : decode cX8_isDrone 7 = .ok (.iaload, 1) := by decide +kernel
theorem dX8_isDrone_8 : decode cX8_isDrone 8 = .ok (.iconst 1, 1) := by decide +kernel
theorem dX8_isDrone_9 : decode cX8_isDrone 9 = .ok (.isub, 1) := by decide +kernel
theorem dX8_isDrone_10 : decode cX8_isDrone 10 = .ok (.invokestatic 60, 3) := by decide +kernel
theorem dX8_isDrone_13 : decode cX8_isDrone 13 = .ok (.ireturn, 1) := by decide +kernel
theorem dX8_isForm_0 : decode cX8_isForm 0 = .ok (.iload_n 0, 1) := by decide +kernel
theorem dX8_isForm_1 : decode cX8_isForm 1 = .ok (.iconst 0, 1) := by decide +kernel
theorem dX8_isForm_2 : decode cX8_isForm 2 = .ok (.iconst 3, 1) := by decide +kernel
theorem dX8_isForm_3 : decode cX8_isForm 3 = .ok (.invokestatic 60, 3) := by decide +kernel
theorem dX8_isForm_6 : decode cX8_isForm 6 = .ok (.ireturn, 1) := by decide +kernel
theorem dX8_of_0 : decode cX8_of 0 = .ok (.bipush 13, 2) := by decide +kernel
theorem dX8_of_2 : decode cX8_of 2 = .ok (.bipush 6, 2) := by decide +kernel
theorem dX8_of_4 : decode cX8_of 4 = .ok (.iload_n 0, 1) := by decide +kernel
theorem dX8_of_5 : decode cX8_of 5 = .ok (.imul, 1) := by decide +kernel
theorem dX8_of_6 : decode cX8_of 6 = .ok (.iadd, 1) := by decide +kernel
theorem dX8_of_7 : decode cX8_of 7 = .ok (.iload_n 1, 1) := by decide +kernel
theorem dX8_of_8 : decode cX8_of 8 = .ok (.iadd, 1) := by decide +kernel
theorem dX8_of_9 : decode cX8_of 9 = .ok (.ireturn, 1) := by decide +kernel
theorem dX8_flies_0 : decode cX8_flies 0 = .ok (.aload_n 0, 1) := by decide +kernel
theorem dX8_flies_1 : decode cX8_flies 1 = .ok (.getfield 16, 3) := by decide +kernel
theorem dX8_flies_4 : decode cX8_flies 4 = .ok (.iload_n 1, 1) := by decide +kernel
theorem dX8_flies_5 : decode cX8_flies 5 = .ok (.iconst 1, 1) := by decide +kernel
theorem dX8_flies_6 : decode cX8_flies 6 = .ok (.invokestatic 64, 3) := by decide +kernel
theorem dX8_flies_9 : decode cX8_flies 9 = .ok (.iaload, 1) := by decide +kernel
theorem dX8_flies_10 : decode cX8_flies 10 = .ok (.iconst 1, 1) := by decide +kernel
theorem dX8_flies_11 : decode cX8_flies 11 = .ok (.if_icmp .ne 7, 3) := by decide +kernel
theorem dX8_flies_14 : decode cX8_flies 14 = .ok (.iconst 1, 1) := by decide +kernel
theorem dX8_flies_15 : decode cX8_flies 15 = .ok (.goto 4, 3) := by decide +kernel
theorem dX8_flies_18 : decode cX8_flies 18 = .ok (.iconst 0, 1) := by decide +kernel
theorem dX8_flies_19 : decode cX8_flies 19 = .ok (.ireturn, 1) := by decide +kernel
theorem dX8_isUrgent_0 : decode cX8_isUrgent 0 = .ok (.aload_n 0, 1) := by decide +kernel
theorem dX8_isUrgent_1 : decode cX8_isUrgent 1 = .ok (.getfield 16, 3) := by decide +kernel
theorem dX8_isUrgent_4 : decode cX8_isUrgent 4 = .ok (.iload_n 1, 1) := by decide +kernel
theorem dX8_isUrgent_5 : decode cX8_isUrgent 5 = .ok (.iconst 5, 1) := by decide +kernel
theorem dX8_isUrgent_6 : decode cX8_isUrgent 6 = .ok (.invokestatic 64, 3) := by decide +kernel
theorem dX8_isUrgent_9 : decode cX8_isUrgent 9 = .ok (.iaload, 1) := by decide +kernel
theorem dX8_isUrgent_10 : decode cX8_isUrgent 10 = .ok (.iconst 1, 1) := by decide +kernel
theorem dX8_isUrgent_11 : decode cX8_isUrgent 11 = .ok (.if_icmp .ne 7, 3) := by decide +kernel
theorem dX8_isUrgent_14 : decode cX8_isUrgent 14 = .ok (.iconst 1, 1) := by decide +kernel
theorem dX8_isUrgent_15 : decode cX8_isUrgent 15 = .ok (.goto 4, 3) := by decide +kernel
theorem dX8_isUrgent_18 : decode cX8_isUrgent 18 = .ok (.iconst 0, 1) := by decide +kernel
theorem dX8_isUrgent_19 : decode cX8_isUrgent 19 = .ok (.ireturn, 1) := by decide +kernel
theorem dX8_goal_0 : decode cX8_goal 0 = .ok (.aload_n 0, 1) := by decide +kernel
theorem dX8_goal_1 : decode cX8_goal 1 = .ok (.getfield 16, 3) := by decide +kernel
theorem dX8_goal_4 : decode cX8_goal 4 = .ok (.iload_n 1, 1) := by decide +kernel
theorem dX8_goal_5 : decode cX8_goal 5 = .ok (.iconst 4, 1) := by decide +kernel
theorem dX8_goal_6 : decode cX8_goal 6 = .ok (.invokestatic 64, 3) := by decide +kernel
theorem dX8_goal_9 : decode cX8_goal 9 = .ok (.iaload, 1) := by decide +kernel
theorem dX8_goal_10 : decode cX8_goal 10 = .ok (.iconst 1, 1) := by decide +kernel
theorem dX8_goal_11 : decode cX8_goal 11 = .ok (.isub, 1) := by decide +kernel
theorem dX8_goal_12 : decode cX8_goal 12 = .ok (.ireturn, 1) := by decide +kernel
theorem dX8_size_0 : decode cX8_size 0 = .ok (.iload_n 0, 1) := by decide +kernel
theorem dX8_size_1 : decode cX8_size 1 = .ok (.ifCond .ge 8, 3) := by decide +kernel
theorem dX8_size_4 : decode cX8_size 4 = .ok (.iload_n 0, 1) := by decide +kernel
theorem dX8_size_5 : decode cX8_size 5 = .ok (.ineg, 1) := by decide +kernel
theorem dX8_size_6 : decode cX8_size 6 = .ok (.goto 4, 3) := by decide +kernel
theorem dX8_size_9 : decode cX8_size 9 = .ok (.iload_n 0, 1) := by decide +kernel
theorem dX8_size_10 : decode cX8_size 10 = .ok (.ireturn, 1) := by decide +kernel
theorem dX8_far_0 : decode cX8_far 0 = .ok (.iload_n 0, 1) := by decide +kernel
theorem dX8_far_1 : decode cX8_far 1 = .ok (.bipush 8, 2) := by decide +kernel
theorem dX8_far_3 : decode cX8_far 3 = .ok (.idiv, 1) := by decide +kernel
theorem dX8_far_4 : decode cX8_far 4 = .ok (.iload_n 1, 1) := by decide +kernel
theorem dX8_far_5 : decode cX8_far 5 = .ok (.bipush 8, 2) := by decide +kernel
theorem dX8_far_7 : decode cX8_far 7 = .ok (.idiv, 1) := by decide +kernel
theorem dX8_far_8 : decode cX8_far 8 = .ok (.isub, 1) := by decide +kernel
theorem dX8_far_9 : decode cX8_far 9 = .ok (.invokestatic 68, 3) := by decide +kernel
theorem dX8_far_12 : decode cX8_far 12 = .ok (.iload_n 0, 1) := by decide +kernel
theorem dX8_far_13 : decode cX8_far 13 = .ok (.bipush 8, 2) := by decide +kernel
theorem dX8_far_15 : decode cX8_far 15 = .ok (.irem, 1) := by decide +kernel
theorem dX8_far_16 : decode cX8_far 16 = .ok (.iload_n 1, 1) := by decide +kernel
theorem dX8_far_17 : decode cX8_far 17 = .ok (.bipush 8, 2) := by decide +kernel
theorem dX8_far_19 : decode cX8_far 19 = .ok (.irem, 1) := by decide +kernel
theorem dX8_far_20 : decode cX8_far 20 = .ok (.isub, 1) := by decide +kernel
theorem dX8_far_21 : decode cX8_far 21 = .ok (.invokestatic 68, 3) := by decide +kernel
theorem dX8_far_24 : decode cX8_far 24 = .ok (.iadd, 1) := by decide +kernel
theorem dX8_far_25 : decode cX8_far 25 = .ok (.ireturn, 1) := by decide +kernel
theorem dX8_in_0 : decode cX8_in 0 = .ok (.iconst 0, 1) := by decide +kernel
theorem dX8_in_1 : decode cX8_in 1 = .ok (.istore_n 2, 1) := by decide +kernel
theorem dX8_in_2 : decode cX8_in 2 = .ok (.iload_n 2, 1) := by decide +kernel
theorem dX8_in_3 : decode cX8_in 3 = .ok (.aload_n 0, 1) := by decide +kernel
theorem dX8_in_4 : decode cX8_in 4 = .ok (.getfield 16, 3) := by decide +kernel
theorem dX8_in_7 : decode cX8_in 7 = .ok (.iconst 0, 1) := by decide +kernel
theorem dX8_in_8 : decode cX8_in 8 = .ok (.iaload, 1) := by decide +kernel
theorem dX8_in_9 : decode cX8_in 9 = .ok (.if_icmp .ge 25, 3) := by decide +kernel
theorem dX8_in_12 : decode cX8_in 12 = .ok (.aload_n 0, 1) := by decide +kernel
theorem dX8_in_13 : decode cX8_in 13 = .ok (.getfield 16, 3) := by decide +kernel
theorem dX8_in_16 : decode cX8_in 16 = .ok (.iload_n 2, 1) := by decide +kernel
theorem dX8_in_17 : decode cX8_in 17 = .ok (.iconst 0, 1) := by decide +kernel
theorem dX8_in_18 : decode cX8_in 18 = .ok (.invokestatic 64, 3) := by decide +kernel
theorem dX8_in_21 : decode cX8_in 21 = .ok (.iaload, 1) := by decide +kernel
theorem dX8_in_22 : decode cX8_in 22 = .ok (.iload_n 1, 1) := by decide +kernel
theorem dX8_in_23 : decode cX8_in 23 = .ok (.if_icmp .ne 5, 3) := by decide +kernel
theorem dX8_in_26 : decode cX8_in 26 = .ok (.iload_n 2, 1) := by decide +kernel
theorem dX8_in_27 : decode cX8_in 27 = .ok (.ireturn, 1) := by decide +kernel
theorem dX8_in_28 : decode cX8_in 28 = .ok (.iinc 2 1, 3) := by decide +kernel
theorem dX8_in_31 : decode cX8_in 31 = .ok (.goto (-29), 3) := by decide +kernel
theorem dX8_in_34 : decode cX8_in 34 = .ok (.iconst (-1), 1) := by decide +kernel
theorem dX8_in_35 : decode cX8_in 35 = .ok (.ireturn, 1) := by decide +kernel
theorem dX8_isPadCell_0 : decode cX8_isPadCell 0 = .ok (.iconst 0, 1) := by decide +kernel
theorem dX8_isPadCell_1 : decode cX8_isPadCell 1 = .ok (.istore_n 2, 1) := by decide +kernel
theorem dX8_isPadCell_2 : decode cX8_isPadCell 2 = .ok (.iload_n 2, 1) := by decide +kernel
theorem dX8_isPadCell_3 : decode cX8_isPadCell 3 = .ok (.aload_n 0, 1) := by decide +kernel
theorem dX8_isPadCell_4 : decode cX8_isPadCell 4 = .ok (.getfield 16, 3) := by decide +kernel
theorem dX8_isPadCell_7 : decode cX8_isPadCell 7 = .ok (.iconst 1, 1) := by decide +kernel
theorem dX8_isPadCell_8 : decode cX8_isPadCell 8 = .ok (.iaload, 1) := by decide +kernel
theorem dX8_isPadCell_9 : decode cX8_isPadCell 9 = .ok (.if_icmp .ge 24, 3) := by decide +kernel
theorem dX8_isPadCell_12 : decode cX8_isPadCell 12 = .ok (.aload_n 0, 1) := by decide +kernel
theorem dX8_isPadCell_13 : decode cX8_isPadCell 13 = .ok (.getfield 16, 3) := by decide +kernel
theorem dX8_isPadCell_16 : decode cX8_isPadCell 16 = .ok (.bipush 9, 2) := by decide +kernel
theorem dX8_isPadCell_18 : decode cX8_isPadCell 18 = .ok (.iload_n 2, 1) := by decide +kernel
theorem dX8_isPadCell_19 : decode cX8_isPadCell 19 = .ok (.iadd, 1) := by decide +kernel
theorem dX8_isPadCell_20 : decode cX8_isPadCell 20 = .ok (.iaload, 1) := by decide +kernel
theorem dX8_isPadCell_21 : decode cX8_isPadCell 21 = .ok (.iload_n 1, 1) := by decide +kernel
theorem dX8_isPadCell_22 : decode cX8_isPadCell 22 = .ok (.if_icmp .ne 5, 3) := by decide +kernel
theorem dX8_isPadCell_25 : decode cX8_isPadCell 25 = .ok (.iconst 1, 1) := by decide +kernel
theorem dX8_isPadCell_26 : decode cX8_isPadCell 26 = .ok (.ireturn, 1) := by decide +kernel
theorem dX8_isPadCell_27 : decode cX8_isPadCell 27 = .ok (.iinc 2 1, 3) := by decide +kernel
theorem dX8_isPadCell_30 : decode cX8_isPadCell 30 = .ok (.goto (-28), 3) := by decide +kernel
theorem dX8_isPadCell_33 : decode cX8_isPadCell 33 = .ok (.iconst 0, 1) := by decide +kernel
theorem dX8_isPadCell_34 : decode cX8_isPadCell 34 = .ok (.ireturn, 1) := by decide +kernel
theorem dX8_flying_0 : decode cX8_flying 0 = .ok (.iconst 0, 1) := by decide +kernel
theorem dX8_flying_1 : decode cX8_flying 1 = .ok (.istore_n 1, 1) := by decide +kernel
theorem dX8_flying_2 : decode cX8_flying 2 = .ok (.iconst 0, 1) := by decide +kernel
theorem dX8_flying_3 : decode cX8_flying 3 = .ok (.istore_n 2, 1) := by decide +kernel
theorem dX8_flying_4 : decode cX8_flying 4 = .ok (.iload_n 2, 1) := by decide +kernel
theorem dX8_flying_5 : decode cX8_flying 5 = .ok (.aload_n 0, 1) := by decide +kernel
theorem dX8_flying_6 : decode cX8_flying 6 = .ok (.getfield 16, 3) := by decide +kernel
theorem dX8_flying_9 : decode cX8_flying 9 = .ok (.iconst 0, 1) := by decide +kernel
theorem dX8_flying_10 : decode cX8_flying 10 = .ok (.iaload, 1) := by decide +kernel
theorem dX8_flying_11 : decode cX8_flying 11 = .ok (.if_icmp .ge 22, 3) := by decide +kernel
theorem dX8_flying_14 : decode cX8_flying 14 = .ok (.iload_n 1, 1) := by decide +kernel
theorem dX8_flying_15 : decode cX8_flying 15 = .ok (.aload_n 0, 1) := by decide +kernel
theorem dX8_flying_16 : decode cX8_flying 16 = .ok (.getfield 16, 3) := by decide +kernel
theorem dX8_flying_19 : decode cX8_flying 19 = .ok (.iload_n 2, 1) := by decide +kernel
theorem dX8_flying_20 : decode cX8_flying 20 = .ok (.iconst 1, 1) := by decide +kernel
theorem dX8_flying_21 : decode cX8_flying 21 = .ok (.invokestatic 64, 3) := by decide +kernel
theorem dX8_flying_24 : decode cX8_flying 24 = .ok (.iaload, 1) := by decide +kernel
theorem dX8_flying_25 : decode cX8_flying 25 = .ok (.iadd, 1) := by decide +kernel
theorem dX8_flying_26 : decode cX8_flying 26 = .ok (.istore_n 1, 1) := by decide +kernel
theorem dX8_flying_27 : decode cX8_flying 27 = .ok (.iinc 2 1, 3) := by decide +kernel
theorem dX8_flying_30 : decode cX8_flying 30 = .ok (.goto (-26), 3) := by decide +kernel
theorem dX8_flying_33 : decode cX8_flying 33 = .ok (.iload_n 1, 1) := by decide +kernel
theorem dX8_flying_34 : decode cX8_flying 34 = .ok (.ireturn, 1) := by decide +kernel
theorem dX8_grounds_0 : decode cX8_grounds 0 = .ok (.aload_n 0, 1) := by decide +kernel
theorem dX8_grounds_1 : decode cX8_grounds 1 = .ok (.getfield 16, 3) := by decide +kernel
theorem dX8_grounds_4 : decode cX8_grounds 4 = .ok (.iload_n 1, 1) := by decide +kernel
theorem dX8_grounds_5 : decode cX8_grounds 5 = .ok (.iconst 1, 1) := by decide +kernel
theorem dX8_grounds_6 : decode cX8_grounds 6 = .ok (.invokestatic 64, 3) := by decide +kernel
theorem dX8_grounds_9 : decode cX8_grounds 9 = .ok (.iconst 0, 1) := by decide +kernel
theorem dX8_grounds_10 : decode cX8_grounds 10 = .ok (.iastore, 1) := by decide +kernel
theorem dX8_grounds_11 : decode cX8_grounds 11 = .ok (.aload_n 0, 1) := by decide +kernel
theorem dX8_grounds_12 : decode cX8_grounds 12 = .ok (.getfield 16, 3) := by decide +kernel
theorem dX8_grounds_15 : decode cX8_grounds 15 = .ok (.iload_n 1, 1) := by decide +kernel
theorem dX8_grounds_16 : decode cX8_grounds 16 = .ok (.iconst 4, 1) := by decide +kernel
theorem dX8_grounds_17 : decode cX8_grounds 17 = .ok (.invokestatic 64, 3) := by decide +kernel
theorem dX8_grounds_20 : decode cX8_grounds 20 = .ok (.iconst 0, 1) := by decide +kernel
theorem dX8_grounds_21 : decode cX8_grounds 21 = .ok (.iastore, 1) := by decide +kernel
theorem dX8_grounds_22 : decode cX8_grounds 22 = .ok (.aload_n 0, 1) := by decide +kernel
theorem dX8_grounds_23 : decode cX8_grounds 23 = .ok (.getfield 16, 3) := by decide +kernel
theorem dX8_grounds_26 : decode cX8_grounds 26 = .ok (.iload_n 1, 1) := by decide +kernel
theorem dX8_grounds_27 : decode cX8_grounds 27 = .ok (.iconst 5, 1) := by decide +kernel
theorem dX8_grounds_28 : decode cX8_grounds 28 = .ok (.invokestatic 64, 3) := by decide +kernel
theorem dX8_grounds_31 : decode cX8_grounds 31 = .ok (.iconst 0, 1) := by decide +kernel
theorem dX8_grounds_32 : decode cX8_grounds 32 = .ok (.iastore, 1) := by decide +kernel
theorem dX8_grounds_33 : decode cX8_grounds 33 = .ok (.return_, 1) := by decide +kernel
theorem dX8_adds_0 : decode cX8_adds 0 = .ok (.iload_n 1, 1) := by decide +kernel
theorem dX8_adds_1 : decode cX8_adds 1 = .ok (.invokestatic 72, 3) := by decide +kernel
theorem dX8_adds_4 : decode cX8_adds 4 = .ok (.ifCond .ne 9, 3) := by decide +kernel
theorem dX8_adds_7 : decode cX8_adds 7 = .ok (.aload_n 0, 1) := by decide +kernel
theorem dX8_adds_8 : decode cX8_adds 8 = .ok (.iconst 1, 1) := by decide +kernel
theorem dX8_adds_9 : decode cX8_adds 9 = .ok (.invokevirtual 76, 3) := by decide +kernel
theorem dX8_adds_12 : decode cX8_adds 12 = .ok (.ireturn, 1) := by decide +kernel
theorem dX8_adds_13 : decode cX8_adds 13 = .ok (.aload_n 0, 1) := by decide +kernel
theorem dX8_adds_14 : decode cX8_adds 14 = .ok (.getfield 16, 3) := by decide +kernel
theorem dX8_adds_17 : decode cX8_adds 17 = .ok (.iconst 0, 1) := by decide +kernel
theorem dX8_adds_18 : decode cX8_adds 18 = .ok (.iaload, 1) := by decide +kernel
theorem dX8_adds_19 : decode cX8_adds 19 = .ok (.bipush 10, 2) := by decide +kernel
theorem dX8_adds_21 : decode cX8_adds 21 = .ok (.if_icmp .ne 9, 3) := by decide +kernel
theorem dX8_adds_24 : decode cX8_adds 24 = .ok (.aload_n 0, 1) := by decide +kernel
theorem dX8_adds_25 : decode cX8_adds 25 = .ok (.iconst 2, 1) := by decide +kernel
theorem dX8_adds_26 : decode cX8_adds 26 = .ok (.invokevirtual 76, 3) := by decide +kernel
theorem dX8_adds_29 : decode cX8_adds 29 = .ok (.ireturn, 1) := by decide +kernel
theorem dX8_adds_30 : decode cX8_adds 30 = .ok (.aload_n 0, 1) := by decide +kernel
theorem dX8_adds_31 : decode cX8_adds 31 = .ok (.iload_n 1, 1) := by decide +kernel
theorem dX8_adds_32 : decode cX8_adds 32 = .ok (.invokevirtual 79, 3) := by decide +kernel
theorem dX8_adds_35 : decode cX8_adds 35 = .ok (.ifCond .lt 9, 3) := by decide +kernel
theorem dX8_adds_38 : decode cX8_adds 38 = .ok (.aload_n 0, 1) := by decide +kernel
theorem dX8_adds_39 : decode cX8_adds 39 = .ok (.iconst 3, 1) := by decide +kernel
theorem dX8_adds_40 : decode cX8_adds 40 = .ok (.invokevirtual 76, 3) := by decide +kernel
theorem dX8_adds_43 : decode cX8_adds 43 = .ok (.ireturn, 1) := by decide +kernel
theorem dX8_adds_44 : decode cX8_adds 44 = .ok (.aload_n 0, 1) := by decide +kernel
theorem dX8_adds_45 : decode cX8_adds 45 = .ok (.getfield 16, 3) := by decide +kernel
theorem dX8_adds_48 : decode cX8_adds 48 = .ok (.iconst 0, 1) := by decide +kernel
theorem dX8_adds_49 : decode cX8_adds 49 = .ok (.iaload, 1) := by decide +kernel
theorem dX8_adds_50 : decode cX8_adds 50 = .ok (.istore_n 2, 1) := by decide +kernel
theorem dX8_adds_51 : decode cX8_adds 51 = .ok (.aload_n 0, 1) := by decide +kernel
theorem dX8_adds_52 : decode cX8_adds 52 = .ok (.getfield 16, 3) := by decide +kernel
theorem dX8_adds_55 : decode cX8_adds 55 = .ok (.iload_n 2, 1) := by decide +kernel
theorem dX8_adds_56 : decode cX8_adds 56 = .ok (.iconst 0, 1) := by decide +kernel
theorem dX8_adds_57 : decode cX8_adds 57 = .ok (.invokestatic 64, 3) := by decide +kernel
theorem dX8_adds_60 : decode cX8_adds 60 = .ok (.iload_n 1, 1) := by decide +kernel
theorem dX8_adds_61 : decode cX8_adds 61 = .ok (.iastore, 1) := by decide +kernel
theorem dX8_adds_62 : decode cX8_adds 62 = .ok (.aload_n 0, 1) := by decide +kernel
theorem dX8_adds_63 : decode cX8_adds 63 = .ok (.getfield 16, 3) := by decide +kernel
theorem dX8_adds_66 : decode cX8_adds 66 = .ok (.iload_n 2, 1) := by decide +kernel
theorem dX8_adds_67 : decode cX8_adds 67 = .ok (.iconst 2, 1) := by decide +kernel
theorem dX8_adds_68 : decode cX8_adds 68 = .ok (.invokestatic 64, 3) := by decide +kernel
theorem dX8_adds_71 : decode cX8_adds 71 = .ok (.bipush 100, 2) := by decide +kernel
theorem dX8_adds_73 : decode cX8_adds 73 = .ok (.iastore, 1) := by decide +kernel
theorem dX8_adds_74 : decode cX8_adds 74 = .ok (.aload_n 0, 1) := by decide +kernel
theorem dX8_adds_75 : decode cX8_adds 75 = .ok (.getfield 16, 3) := by decide +kernel
theorem dX8_adds_78 : decode cX8_adds 78 = .ok (.iload_n 2, 1) := by decide +kernel
theorem dX8_adds_79 : decode cX8_adds 79 = .ok (.iconst 3, 1) := by decide +kernel
theorem dX8_adds_80 : decode cX8_adds 80 = .ok (.invokestatic 64, 3) := by decide +kernel
theorem dX8_adds_83 : decode cX8_adds 83 = .ok (.iconst 0, 1) := by decide +kernel
theorem dX8_adds_84 : decode cX8_adds 84 = .ok (.iastore, 1) := by decide +kernel
theorem dX8_adds_85 : decode cX8_adds 85 = .ok (.aload_n 0, 1) := by decide +kernel
theorem dX8_adds_86 : decode cX8_adds 86 = .ok (.iload_n 2, 1) := by decide +kernel
theorem dX8_adds_87 : decode cX8_adds 87 = .ok (.invokevirtual 82, 3) := by decide +kernel
theorem dX8_adds_90 : decode cX8_adds 90 = .ok (.aload_n 0, 1) := by decide +kernel
theorem dX8_adds_91 : decode cX8_adds 91 = .ok (.getfield 16, 3) := by decide +kernel
theorem dX8_adds_94 : decode cX8_adds 94 = .ok (.iconst 0, 1) := by decide +kernel
theorem dX8_adds_95 : decode cX8_adds 95 = .ok (.dup2, 1) := by decide +kernel
theorem dX8_adds_96 : decode cX8_adds 96 = .ok (.iaload, 1) := by decide +kernel
theorem dX8_adds_97 : decode cX8_adds 97 = .ok (.iconst 1, 1) := by decide +kernel
theorem dX8_adds_98 : decode cX8_adds 98 = .ok (.iadd, 1) := by decide +kernel
theorem dX8_adds_99 : decode cX8_adds 99 = .ok (.iastore, 1) := by decide +kernel
theorem dX8_adds_100 : decode cX8_adds 100 = .ok (.iload_n 2, 1) := by decide +kernel
theorem dX8_adds_101 : decode cX8_adds 101 = .ok (.ireturn, 1) := by decide +kernel
theorem dX8_addDrone_0 : decode cX8_addDrone 0 = .ok (.aload_n 0, 1) := by decide +kernel
theorem dX8_addDrone_1 : decode cX8_addDrone 1 = .ok (.invokevirtual 86, 3) := by decide +kernel
theorem dX8_addDrone_4 : decode cX8_addDrone 4 = .ok (.aload_n 0, 1) := by decide +kernel
theorem dX8_addDrone_5 : decode cX8_addDrone 5 = .ok (.aload_n 0, 1) := by decide +kernel
theorem dX8_addDrone_6 : decode cX8_addDrone 6 = .ok (.iload_n 1, 1) := by decide +kernel
theorem dX8_addDrone_7 : decode cX8_addDrone 7 = .ok (.invokevirtual 89, 3) := by decide +kernel
theorem dX8_addDrone_10 : decode cX8_addDrone 10 = .ok (.invokevirtual 92, 3) := by decide +kernel
theorem dX8_addDrone_13 : decode cX8_addDrone 13 = .ok (.ireturn, 1) := by decide +kernel
theorem dX8_addsPad_0 : decode cX8_addsPad 0 = .ok (.iload_n 1, 1) := by decide +kernel
theorem dX8_addsPad_1 : decode cX8_addsPad 1 = .ok (.invokestatic 72, 3) := by decide +kernel
theorem dX8_addsPad_4 : decode cX8_addsPad 4 = .ok (.ifCond .ne 9, 3) := by decide +kernel
theorem dX8_addsPad_7 : decode cX8_addsPad 7 = .ok (.aload_n 0, 1) := by decide +kernel
theorem dX8_addsPad_8 : decode cX8_addsPad 8 = .ok (.iconst 1, 1) := by decide +kernel
theorem dX8_addsPad_9 : decode cX8_addsPad 9 = .ok (.invokevirtual 76, 3) := by decide +kernel
theorem dX8_addsPad_12 : decode cX8_addsPad 12 = .ok (.ireturn, 1) := by decide +kernel
theorem dX8_addsPad_13 : decode cX8_addsPad 13 = .ok (.aload_n 0, 1) := by decide +kernel
theorem dX8_addsPad_14 : decode cX8_addsPad 14 = .ok (.iload_n 1, 1) := by decide +kernel
theorem dX8_addsPad_15 : decode cX8_addsPad 15 = .ok (.invokevirtual 95, 3) := by decide +kernel
theorem dX8_addsPad_18 : decode cX8_addsPad 18 = .ok (.ifCond .eq 9, 3) := by decide +kernel
theorem dX8_addsPad_21 : decode cX8_addsPad 21 = .ok (.aload_n 0, 1) := by decide +kernel
theorem dX8_addsPad_22 : decode cX8_addsPad 22 = .ok (.iconst 2, 1) := by decide +kernel
theorem dX8_addsPad_23 : decode cX8_addsPad 23 = .ok (.invokevirtual 76, 3) := by decide +kernel
theorem dX8_addsPad_26 : decode cX8_addsPad 26 = .ok (.ireturn, 1) := by decide +kernel
theorem dX8_addsPad_27 : decode cX8_addsPad 27 = .ok (.aload_n 0, 1) := by decide +kernel
theorem dX8_addsPad_28 : decode cX8_addsPad 28 = .ok (.getfield 16, 3) := by decide +kernel
theorem dX8_addsPad_31 : decode cX8_addsPad 31 = .ok (.iconst 1, 1) := by decide +kernel
theorem dX8_addsPad_32 : decode cX8_addsPad 32 = .ok (.iaload, 1) := by decide +kernel
theorem dX8_addsPad_33 : decode cX8_addsPad 33 = .ok (.iconst 4, 1) := by decide +kernel
theorem dX8_addsPad_34 : decode cX8_addsPad 34 = .ok (.if_icmp .ne 9, 3) := by decide +kernel
theorem dX8_addsPad_37 : decode cX8_addsPad 37 = .ok (.aload_n 0, 1) := by decide +kernel
theorem dX8_addsPad_38 : decode cX8_addsPad 38 = .ok (.iconst 3, 1) := by decide +kernel
theorem dX8_addsPad_39 : decode cX8_addsPad 39 = .ok (.invokevirtual 76, 3) := by decide +kernel
theorem dX8_addsPad_42 : decode cX8_addsPad 42 = .ok (.ireturn, 1) := by decide +kernel
theorem dX8_addsPad_43 : decode cX8_addsPad 43 = .ok (.aload_n 0, 1) := by decide +kernel
theorem dX8_addsPad_44 : decode cX8_addsPad 44 = .ok (.getfield 16, 3) := by decide +kernel
theorem dX8_addsPad_47 : decode cX8_addsPad 47 = .ok (.bipush 9, 2) := by decide +kernel
theorem dX8_addsPad_49 : decode cX8_addsPad 49 = .ok (.aload_n 0, 1) := by decide +kernel
theorem dX8_addsPad_50 : decode cX8_addsPad 50 = .ok (.getfield 16, 3) := by decide +kernel
theorem dX8_addsPad_53 : decode cX8_addsPad 53 = .ok (.iconst 1, 1) := by decide +kernel
theorem dX8_addsPad_54 : decode cX8_addsPad 54 = .ok (.iaload, 1) := by decide +kernel
theorem dX8_addsPad_55 : decode cX8_addsPad 55 = .ok (.iadd, 1) := by decide +kernel
theorem dX8_addsPad_56 : decode cX8_addsPad 56 = .ok (.iload_n 1, 1) := by decide +kernel
theorem dX8_addsPad_57 : decode cX8_addsPad 57 = .ok (.iastore, 1) := by decide +kernel
theorem dX8_addsPad_58 : decode cX8_addsPad 58 = .ok (.aload_n 0, 1) := by decide +kernel
theorem dX8_addsPad_59 : decode cX8_addsPad 59 = .ok (.getfield 16, 3) := by decide +kernel
theorem dX8_addsPad_62 : decode cX8_addsPad 62 = .ok (.iconst 1, 1) := by decide +kernel
theorem dX8_addsPad_63 : decode cX8_addsPad 63 = .ok (.dup2, 1) := by decide +kernel
theorem dX8_addsPad_64 : decode cX8_addsPad 64 = .ok (.iaload, 1) := by decide +kernel
theorem dX8_addsPad_65 : decode cX8_addsPad 65 = .ok (.iconst 1, 1) := by decide +kernel
theorem dX8_addsPad_66 : decode cX8_addsPad 66 = .ok (.iadd, 1) := by decide +kernel
theorem dX8_addsPad_67 : decode cX8_addsPad 67 = .ok (.iastore, 1) := by decide +kernel
theorem dX8_addsPad_68 : decode cX8_addsPad 68 = .ok (.aload_n 0, 1) := by decide +kernel
theorem dX8_addsPad_69 : decode cX8_addsPad 69 = .ok (.getfield 16, 3) := by decide +kernel
theorem dX8_addsPad_72 : decode cX8_addsPad 72 = .ok (.iconst 1, 1) := by decide +kernel
theorem dX8_addsPad_73 : decode cX8_addsPad 73 = .ok (.iaload, 1) := by decide +kernel
theorem dX8_addsPad_74 : decode cX8_addsPad 74 = .ok (.ireturn, 1) := by decide +kernel
theorem dX8_addPad_0 : decode cX8_addPad 0 = .ok (.aload_n 0, 1) := by decide +kernel
theorem dX8_addPad_1 : decode cX8_addPad 1 = .ok (.invokevirtual 86, 3) := by decide +kernel
theorem dX8_addPad_4 : decode cX8_addPad 4 = .ok (.aload_n 0, 1) := by decide +kernel
theorem dX8_addPad_5 : decode cX8_addPad 5 = .ok (.aload_n 0, 1) := by decide +kernel
theorem dX8_addPad_6 : decode cX8_addPad 6 = .ok (.iload_n 1, 1) := by decide +kernel
theorem dX8_addPad_7 : decode cX8_addPad 7 = .ok (.invokevirtual 98, 3) := by decide +kernel
theorem dX8_addPad_10 : decode cX8_addPad 10 = .ok (.invokevirtual 92, 3) := by decide +kernel
theorem dX8_addPad_13 : decode cX8_addPad 13 = .ok (.ireturn, 1) := by decide +kernel
theorem dX8_starts_0 : decode cX8_starts 0 = .ok (.aload_n 0, 1) := by decide +kernel
theorem dX8_starts_1 : decode cX8_starts 1 = .ok (.iload_n 1, 1) := by decide +kernel
theorem dX8_starts_2 : decode cX8_starts 2 = .ok (.invokevirtual 101, 3) := by decide +kernel
theorem dX8_starts_5 : decode cX8_starts 5 = .ok (.ifCond .ne 9, 3) := by decide +kernel
theorem dX8_starts_8 : decode cX8_starts 8 = .ok (.aload_n 0, 1) := by decide +kernel
theorem dX8_starts_9 : decode cX8_starts 9 = .ok (.iconst 1, 1) := by decide +kernel
theorem dX8_starts_10 : decode cX8_starts 10 = .ok (.invokevirtual 76, 3) := by decide +kernel
theorem dX8_starts_13 : decode cX8_starts 13 = .ok (.ireturn, 1) := by decide +kernel
theorem dX8_starts_14 : decode cX8_starts 14 = .ok (.aload_n 0, 1) := by decide +kernel
theorem dX8_starts_15 : decode cX8_starts 15 = .ok (.iload_n 1, 1) := by decide +kernel
theorem dX8_starts_16 : decode cX8_starts 16 = .ok (.invokevirtual 104, 3) := by decide +kernel
theorem dX8_starts_19 : decode cX8_starts 19 = .ok (.ifCond .eq 9, 3) := by decide +kernel
theorem dX8_starts_22 : decode cX8_starts 22 = .ok (.aload_n 0, 1) := by decide +kernel
theorem dX8_starts_23 : decode cX8_starts 23 = .ok (.iconst 2, 1) := by decide +kernel
theorem dX8_starts_24 : decode cX8_starts 24 = .ok (.invokevirtual 76, 3) := by decide +kernel
theorem dX8_starts_27 : decode cX8_starts 27 = .ok (.ireturn, 1) := by decide +kernel
theorem dX8_starts_28 : decode cX8_starts 28 = .ok (.aload_n 0, 1) := by decide +kernel
theorem dX8_starts_29 : decode cX8_starts 29 = .ok (.getfield 16, 3) := by decide +kernel
theorem dX8_starts_32 : decode cX8_starts 32 = .ok (.iload_n 1, 1) := by decide +kernel
theorem dX8_starts_33 : decode cX8_starts 33 = .ok (.iconst 2, 1) := by decide +kernel
theorem dX8_starts_34 : decode cX8_starts 34 = .ok (.invokestatic 64, 3) := by decide +kernel
theorem dX8_starts_37 : decode cX8_starts 37 = .ok (.iaload, 1) := by decide +kernel
theorem dX8_starts_38 : decode cX8_starts 38 = .ok (.aload_n 0, 1) := by decide +kernel
theorem dX8_starts_39 : decode cX8_starts 39 = .ok (.getfield 16, 3) := by decide +kernel
theorem dX8_starts_42 : decode cX8_starts 42 = .ok (.iconst 2, 1) := by decide +kernel
theorem dX8_starts_43 : decode cX8_starts 43 = .ok (.iaload, 1) := by decide +kernel
theorem dX8_starts_44 : decode cX8_starts 44 = .ok (.if_icmp .gt 9, 3) := by decide +kernel
theorem dX8_starts_47 : decode cX8_starts 47 = .ok (.aload_n 0, 1) := by decide +kernel
theorem dX8_starts_48 : decode cX8_starts 48 = .ok (.iconst 3, 1) := by decide +kernel
theorem dX8_starts_49 : decode cX8_starts 49 = .ok (.invokevirtual 76, 3) := by decide +kernel
theorem dX8_starts_52 : decode cX8_starts 52 = .ok (.ireturn, 1) := by decide +kernel
theorem dX8_starts_53 : decode cX8_starts 53 = .ok (.aload_n 0, 1) := by decide +kernel
theorem dX8_starts_54 : decode cX8_starts 54 = .ok (.getfield 16, 3) := by decide +kernel
theorem dX8_starts_57 : decode cX8_starts 57 = .ok (.iload_n 1, 1) := by decide +kernel
theorem dX8_starts_58 : decode cX8_starts 58 = .ok (.iconst 1, 1) := by decide +kernel
theorem dX8_starts_59 : decode cX8_starts 59 = .ok (.invokestatic 64, 3) := by decide +kernel
theorem dX8_starts_62 : decode cX8_starts 62 = .ok (.iconst 1, 1) := by decide +kernel
theorem dX8_starts_63 : decode cX8_starts 63 = .ok (.iastore, 1) := by decide +kernel
theorem dX8_starts_64 : decode cX8_starts 64 = .ok (.aload_n 0, 1) := by decide +kernel
theorem dX8_starts_65 : decode cX8_starts 65 = .ok (.invokevirtual 107, 3) := by decide +kernel
theorem dX8_starts_68 : decode cX8_starts 68 = .ok (.ireturn, 1) := by decide +kernel
theorem dX8_takeOff_0 : decode cX8_takeOff 0 = .ok (.aload_n 0, 1) := by decide +kernel
theorem dX8_takeOff_1 : decode cX8_takeOff 1 = .ok (.invokevirtual 86, 3) := by decide +kernel
theorem dX8_takeOff_4 : decode cX8_takeOff 4 = .ok (.aload_n 0, 1) := by decide +kernel
theorem dX8_takeOff_5 : decode cX8_takeOff 5 = .ok (.aload_n 0, 1) := by decide +kernel
theorem dX8_takeOff_6 : decode cX8_takeOff 6 = .ok (.iload_n 1, 1) := by decide +kernel
theorem dX8_takeOff_7 : decode cX8_takeOff 7 = .ok (.invokevirtual 111, 3) := by decide +kernel
theorem dX8_takeOff_10 : decode cX8_takeOff 10 = .ok (.invokevirtual 92, 3) := by decide +kernel
theorem dX8_takeOff_13 : decode cX8_takeOff 13 = .ok (.ireturn, 1) := by decide +kernel
theorem dX8_lands_0 : decode cX8_lands 0 = .ok (.aload_n 0, 1) := by decide +kernel
theorem dX8_lands_1 : decode cX8_lands 1 = .ok (.iload_n 1, 1) := by decide +kernel
theorem dX8_lands_2 : decode cX8_lands 2 = .ok (.invokevirtual 101, 3) := by decide +kernel
theorem dX8_lands_5 : decode cX8_lands 5 = .ok (.ifCond .ne 9, 3) := by decide +kernel
theorem dX8_lands_8 : decode cX8_lands 8 = .ok (.aload_n 0, 1) := by decide +kernel
theorem dX8_lands_9 : decode cX8_lands 9 = .ok (.iconst 1, 1) := by decide +kernel
theorem dX8_lands_10 : decode cX8_lands 10 = .ok (.invokevirtual 76, 3) := by decide +kernel
theorem dX8_lands_13 : decode cX8_lands 13 = .ok (.ireturn, 1) := by decide +kernel
theorem dX8_lands_14 : decode cX8_lands 14 = .ok (.aload_n 0, 1) := by decide +kernel
theorem dX8_lands_15 : decode cX8_lands 15 = .ok (.iload_n 1, 1) := by decide +kernel
theorem dX8_lands_16 : decode cX8_lands 16 = .ok (.invokevirtual 104, 3) := by decide +kernel
theorem dX8_lands_19 : decode cX8_lands 19 = .ok (.ifCond .ne 9, 3) := by decide +kernel
theorem dX8_lands_22 : decode cX8_lands 22 = .ok (.aload_n 0, 1) := by decide +kernel
theorem dX8_lands_23 : decode cX8_lands 23 = .ok (.iconst 2, 1) := by decide +kernel
theorem dX8_lands_24 : decode cX8_lands 24 = .ok (.invokevirtual 76, 3) := by decide +kernel
theorem dX8_lands_27 : decode cX8_lands 27 = .ok (.ireturn, 1) := by decide +kernel
theorem dX8_lands_28 : decode cX8_lands 28 = .ok (.aload_n 0, 1) := by decide +kernel
theorem dX8_lands_29 : decode cX8_lands 29 = .ok (.aload_n 0, 1) := by decide +kernel
theorem dX8_lands_30 : decode cX8_lands 30 = .ok (.getfield 16, 3) := by decide +kernel
theorem dX8_lands_33 : decode cX8_lands 33 = .ok (.iload_n 1, 1) := by decide +kernel
theorem dX8_lands_34 : decode cX8_lands 34 = .ok (.iconst 0, 1) := by decide +kernel
theorem dX8_lands_35 : decode cX8_lands 35 = .ok (.invokestatic 64, 3) := by decide +kernel
theorem dX8_lands_38 : decode cX8_lands 38 = .ok (.iaload, 1) := by decide +kernel
theorem dX8_lands_39 : decode cX8_lands 39 = .ok (.invokevirtual 95, 3) := by decide +kernel
theorem dX8_lands_42 : decode cX8_lands 42 = .ok (.ifCond .ne 9, 3) := by decide +kernel
theorem dX8_lands_45 : decode cX8_lands 45 = .ok (.aload_n 0, 1) := by decide +kernel
theorem dX8_lands_46 : decode cX8_lands 46 = .ok (.iconst 3, 1) := by decide +kernel
theorem dX8_lands_47 : decode cX8_lands 47 = .ok (.invokevirtual 76, 3) := by decide +kernel
theorem dX8_lands_50 : decode cX8_lands 50 = .ok (.ireturn, 1) := by decide +kernel
theorem dX8_lands_51 : decode cX8_lands 51 = .ok (.aload_n 0, 1) := by decide +kernel
theorem dX8_lands_52 : decode cX8_lands 52 = .ok (.iload_n 1, 1) := by decide +kernel
theorem dX8_lands_53 : decode cX8_lands 53 = .ok (.invokevirtual 82, 3) := by decide +kernel
theorem dX8_lands_56 : decode cX8_lands 56 = .ok (.aload_n 0, 1) := by decide +kernel
theorem dX8_lands_57 : decode cX8_lands 57 = .ok (.invokevirtual 107, 3) := by decide +kernel
theorem dX8_lands_60 : decode cX8_lands 60 = .ok (.ireturn, 1) := by decide +kernel
theorem dX8_land_0 : decode cX8_land 0 = .ok (.aload_n 0, 1) := by decide +kernel
theorem dX8_land_1 : decode cX8_land 1 = .ok (.invokevirtual 86, 3) := by decide +kernel
theorem dX8_land_4 : decode cX8_land 4 = .ok (.aload_n 0, 1) := by decide +kernel
theorem dX8_land_5 : decode cX8_land 5 = .ok (.aload_n 0, 1) := by decide +kernel
theorem dX8_land_6 : decode cX8_land 6 = .ok (.iload_n 1, 1) := by decide +kernel
theorem dX8_land_7 : decode cX8_land 7 = .ok (.invokevirtual 114, 3) := by decide +kernel
theorem dX8_land_10 : decode cX8_land 10 = .ok (.invokevirtual 92, 3) := by decide +kernel
theorem dX8_land_13 : decode cX8_land 13 = .ok (.ireturn, 1) := by decide +kernel
theorem dX8_sends_0 : decode cX8_sends 0 = .ok (.aload_n 0, 1) := by decide +kernel
theorem dX8_sends_1 : decode cX8_sends 1 = .ok (.iload_n 1, 1) := by decide +kernel
theorem dX8_sends_2 : decode cX8_sends 2 = .ok (.invokevirtual 101, 3) := by decide +kernel
theorem dX8_sends_5 : decode cX8_sends 5 = .ok (.ifCond .eq 10, 3) := by decide +kernel
theorem dX8_sends_8 : decode cX8_sends 8 = .ok (.iload_n 2, 1) := by decide +kernel
theorem dX8_sends_9 : decode cX8_sends 9 = .ok (.invokestatic 72, 3) := by decide +kernel
theorem dX8_sends_12 : decode cX8_sends 12 = .ok (.ifCond .ne 9, 3) := by decide +kernel
theorem dX8_sends_15 : decode cX8_sends 15 = .ok (.aload_n 0, 1) := by decide +kernel
theorem dX8_sends_16 : decode cX8_sends 16 = .ok (.iconst 1, 1) := by decide +kernel
theorem dX8_sends_17 : decode cX8_sends 17 = .ok (.invokevirtual 76, 3) := by decide +kernel
theorem dX8_sends_20 : decode cX8_sends 20 = .ok (.ireturn, 1) := by decide +kernel
theorem dX8_sends_21 : decode cX8_sends 21 = .ok (.aload_n 0, 1) := by decide +kernel
theorem dX8_sends_22 : decode cX8_sends 22 = .ok (.iload_n 1, 1) := by decide +kernel
theorem dX8_sends_23 : decode cX8_sends 23 = .ok (.invokevirtual 104, 3) := by decide +kernel
theorem dX8_sends_26 : decode cX8_sends 26 = .ok (.ifCond .eq 11, 3) := by decide +kernel
theorem dX8_sends_29 : decode cX8_sends 29 = .ok (.aload_n 0, 1) := by decide +kernel
theorem dX8_sends_30 : decode cX8_sends 30 = .ok (.iload_n 1, 1) := by decide +kernel
theorem dX8_sends_31 : decode cX8_sends 31 = .ok (.invokevirtual 117, 3) := by decide +kernel
theorem dX8_sends_34 : decode cX8_sends 34 = .ok (.ifCond .eq 9, 3) := by decide +kernel
theorem dX8_sends_37 : decode cX8_sends 37 = .ok (.aload_n 0, 1) := by decide +kernel
theorem dX8_sends_38 : decode cX8_sends 38 = .ok (.iconst 2, 1) := by decide +kernel
theorem dX8_sends_39 : decode cX8_sends 39 = .ok (.invokevirtual 76, 3) := by decide +kernel
theorem dX8_sends_42 : decode cX8_sends 42 = .ok (.ireturn, 1) := by decide +kernel
theorem dX8_sends_43 : decode cX8_sends 43 = .ok (.aload_n 0, 1) := by decide +kernel
theorem dX8_sends_44 : decode cX8_sends 44 = .ok (.getfield 16, 3) := by decide +kernel
theorem dX8_sends_47 : decode cX8_sends 47 = .ok (.iload_n 1, 1) := by decide +kernel
theorem dX8_sends_48 : decode cX8_sends 48 = .ok (.iconst 4, 1) := by decide +kernel
theorem dX8_sends_49 : decode cX8_sends 49 = .ok (.invokestatic 64, 3) := by decide +kernel
theorem dX8_sends_52 : decode cX8_sends 52 = .ok (.iload_n 2, 1) := by decide +kernel
theorem dX8_sends_53 : decode cX8_sends 53 = .ok (.iconst 1, 1) := by decide +kernel
theorem dX8_sends_54 : decode cX8_sends 54 = .ok (.iadd, 1) := by decide +kernel
theorem dX8_sends_55 : decode cX8_sends 55 = .ok (.iastore, 1) := by decide +kernel
theorem dX8_sends_56 : decode cX8_sends 56 = .ok (.aload_n 0, 1) := by decide +kernel
theorem dX8_sends_57 : decode cX8_sends 57 = .ok (.getfield 16, 3) := by decide +kernel
theorem dX8_sends_60 : decode cX8_sends 60 = .ok (.iload_n 1, 1) := by decide +kernel
theorem dX8_sends_61 : decode cX8_sends 61 = .ok (.iconst 0, 1) := by decide +kernel
theorem dX8_sends_62 : decode cX8_sends 62 = .ok (.invokestatic 64, 3) := by decide +kernel
theorem dX8_sends_65 : decode cX8_sends 65 = .ok (.iaload, 1) := by decide +kernel
theorem dX8_sends_66 : decode cX8_sends 66 = .ok (.iload_n 2, 1) := by decide +kernel
theorem dX8_sends_67 : decode cX8_sends 67 = .ok (.invokestatic 120, 3) := by decide +kernel
theorem dX8_sends_70 : decode cX8_sends 70 = .ok (.ireturn, 1) := by decide +kernel
theorem dX8_sendTo_0 : decode cX8_sendTo 0 = .ok (.aload_n 0, 1) := by decide +kernel
theorem dX8_sendTo_1 : decode cX8_sendTo 1 = .ok (.invokevirtual 86, 3) := by decide +kernel
theorem dX8_sendTo_4 : decode cX8_sendTo 4 = .ok (.aload_n 0, 1) := by decide +kernel
theorem dX8_sendTo_5 : decode cX8_sendTo 5 = .ok (.aload_n 0, 1) := by decide +kernel
theorem dX8_sendTo_6 : decode cX8_sendTo 6 = .ok (.iload_n 1, 1) := by decide +kernel
theorem dX8_sendTo_7 : decode cX8_sendTo 7 = .ok (.iload_n 2, 1) := by decide +kernel
theorem dX8_sendTo_8 : decode cX8_sendTo 8 = .ok (.invokevirtual 123, 3) := by decide +kernel
theorem dX8_sendTo_11 : decode cX8_sendTo 11 = .ok (.invokevirtual 92, 3) := by decide +kernel
theorem dX8_sendTo_14 : decode cX8_sendTo 14 = .ok (.ireturn, 1) := by decide +kernel
theorem dX8_reserves_0 : decode cX8_reserves 0 = .ok (.iload_n 1, 1) := by decide +kernel
theorem dX8_reserves_1 : decode cX8_reserves 1 = .ok (.iconst 5, 1) := by decide +kernel
theorem dX8_reserves_2 : decode cX8_reserves 2 = .ok (.bipush 30, 2) := by decide +kernel
theorem dX8_reserves_4 : decode cX8_reserves 4 = .ok (.invokestatic 60, 3) := by decide +kernel
theorem dX8_reserves_7 : decode cX8_reserves 7 = .ok (.ifCond .ne 9, 3) := by decide +kernel
theorem dX8_reserves_10 : decode cX8_reserves 10 = .ok (.aload_n 0, 1) := by decide +kernel
theorem dX8_reserves_11 : decode cX8_reserves 11 = .ok (.iconst 1, 1) := by decide +kernel
theorem dX8_reserves_12 : decode cX8_reserves 12 = .ok (.invokevirtual 76, 3) := by decide +kernel
theorem dX8_reserves_15 : decode cX8_reserves 15 = .ok (.ireturn, 1) := by decide +kernel
theorem dX8_reserves_16 : decode cX8_reserves 16 = .ok (.aload_n 0, 1) := by decide +kernel
theorem dX8_reserves_17 : decode cX8_reserves 17 = .ok (.getfield 16, 3) := by decide +kernel
theorem dX8_reserves_20 : decode cX8_reserves 20 = .ok (.iconst 2, 1) := by decide +kernel
theorem dX8_reserves_21 : decode cX8_reserves 21 = .ok (.iaload, 1) := by decide +kernel
theorem dX8_reserves_22 : decode cX8_reserves 22 = .ok (.istore_n 2, 1) := by decide +kernel
theorem dX8_reserves_23 : decode cX8_reserves 23 = .ok (.aload_n 0, 1) := by decide +kernel
theorem dX8_reserves_24 : decode cX8_reserves 24 = .ok (.getfield 16, 3) := by decide +kernel
theorem dX8_reserves_27 : decode cX8_reserves 27 = .ok (.iconst 2, 1) := by decide +kernel
theorem dX8_reserves_28 : decode cX8_reserves 28 = .ok (.iload_n 1, 1) := by decide +kernel
theorem dX8_reserves_29 : decode cX8_reserves 29 = .ok (.iastore, 1) := by decide +kernel
theorem dX8_reserves_30 : decode cX8_reserves 30 = .ok (.iload_n 2, 1) := by decide +kernel
theorem dX8_reserves_31 : decode cX8_reserves 31 = .ok (.ireturn, 1) := by decide +kernel
theorem dX8_setReserve_0 : decode cX8_setReserve 0 = .ok (.aload_n 0, 1) := by decide +kernel
theorem dX8_setReserve_1 : decode cX8_setReserve 1 = .ok (.invokevirtual 86, 3) := by decide +kernel
theorem dX8_setReserve_4 : decode cX8_setReserve 4 = .ok (.aload_n 0, 1) := by decide +kernel
theorem dX8_setReserve_5 : decode cX8_setReserve 5 = .ok (.aload_n 0, 1) := by decide +kernel
theorem dX8_setReserve_6 : decode cX8_setReserve 6 = .ok (.iload_n 1, 1) := by decide +kernel
theorem dX8_setReserve_7 : decode cX8_setReserve 7 = .ok (.invokevirtual 126, 3) := by decide +kernel
theorem dX8_setReserve_10 : decode cX8_setReserve 10 = .ok (.invokevirtual 92, 3) := by decide +kernel
theorem dX8_setReserve_13 : decode cX8_setReserve 13 = .ok (.ireturn, 1) := by decide +kernel
theorem dX8_droneCount_0 : decode cX8_droneCount 0 = .ok (.aload_n 0, 1) := by decide +kernel
theorem dX8_droneCount_1 : decode cX8_droneCount 1 = .ok (.iconst 0, 1) := by decide +kernel
theorem dX8_droneCount_2 : decode cX8_droneCount 2 = .ok (.putfield 50, 3) := by decide +kernel
theorem dX8_droneCount_5 : decode cX8_droneCount 5 = .ok (.aload_n 0, 1) := by decide +kernel
theorem dX8_droneCount_6 : decode cX8_droneCount 6 = .ok (.getfield 16, 3) := by decide +kernel
theorem dX8_droneCount_9 : decode cX8_droneCount 9 = .ok (.iconst 0, 1) := by decide +kernel
theorem dX8_droneCount_10 : decode cX8_droneCount 10 = .ok (.iaload, 1) := by decide +kernel
theorem dX8_droneCount_11 : decode cX8_droneCount 11 = .ok (.ireturn, 1) := by decide +kernel
theorem dX8_tells_0 : decode cX8_tells 0 = .ok (.aload_n 0, 1) := by decide +kernel
theorem dX8_tells_1 : decode cX8_tells 1 = .ok (.aload_n 0, 1) := by decide +kernel
theorem dX8_tells_2 : decode cX8_tells 2 = .ok (.iload_n 1, 1) := by decide +kernel
theorem dX8_tells_3 : decode cX8_tells 3 = .ok (.invokevirtual 101, 3) := by decide +kernel
theorem dX8_tells_6 : decode cX8_tells 6 = .ok (.ifCond .eq 7, 3) := by decide +kernel
theorem dX8_tells_9 : decode cX8_tells 9 = .ok (.iconst 0, 1) := by decide +kernel
theorem dX8_tells_10 : decode cX8_tells 10 = .ok (.goto 4, 3) := by decide +kernel
theorem dX8_tells_13 : decode cX8_tells 13 = .ok (.iconst 1, 1) := by decide +kernel
theorem dX8_tells_14 : decode cX8_tells 14 = .ok (.putfield 50, 3) := by decide +kernel
theorem dX8_tells_17 : decode cX8_tells 17 = .ok (.aload_n 0, 1) := by decide +kernel
theorem dX8_tells_18 : decode cX8_tells 18 = .ok (.getfield 50, 3) := by decide +kernel
theorem dX8_tells_21 : decode cX8_tells 21 = .ok (.ifCond .ne 16, 3) := by decide +kernel
theorem dX8_tells_24 : decode cX8_tells 24 = .ok (.aload_n 0, 1) := by decide +kernel
theorem dX8_tells_25 : decode cX8_tells 25 = .ok (.getfield 16, 3) := by decide +kernel
theorem dX8_tells_28 : decode cX8_tells 28 = .ok (.iload_n 1, 1) := by decide +kernel
theorem dX8_tells_29 : decode cX8_tells 29 = .ok (.iload_n 2, 1) := by decide +kernel
theorem dX8_tells_30 : decode cX8_tells 30 = .ok (.invokestatic 64, 3) := by decide +kernel
theorem dX8_tells_33 : decode cX8_tells 33 = .ok (.iaload, 1) := by decide +kernel
theorem dX8_tells_34 : decode cX8_tells 34 = .ok (.goto 4, 3) := by decide +kernel
theorem dX8_tells_37 : decode cX8_tells 37 = .ok (.iconst 0, 1) := by decide +kernel
theorem dX8_tells_38 : decode cX8_tells 38 = .ok (.ireturn, 1) := by decide +kernel
theorem dX8_cellOf_0 : decode cX8_cellOf 0 = .ok (.aload_n 0, 1) := by decide +kernel
theorem dX8_cellOf_1 : decode cX8_cellOf 1 = .ok (.iload_n 1, 1) := by decide +kernel
theorem dX8_cellOf_2 : decode cX8_cellOf 2 = .ok (.iconst 0, 1) := by decide +kernel
theorem dX8_cellOf_3 : decode cX8_cellOf 3 = .ok (.invokevirtual 129, 3) := by decide +kernel
theorem dX8_cellOf_6 : decode cX8_cellOf 6 = .ok (.ireturn, 1) := by decide +kernel
theorem dX8_battery_0 : decode cX8_battery 0 = .ok (.aload_n 0, 1) := by decide +kernel
theorem dX8_battery_1 : decode cX8_battery 1 = .ok (.iload_n 1, 1) := by decide +kernel
theorem dX8_battery_2 : decode cX8_battery 2 = .ok (.iconst 2, 1) := by decide +kernel
theorem dX8_battery_3 : decode cX8_battery 3 = .ok (.invokevirtual 129, 3) := by decide +kernel
theorem dX8_battery_6 : decode cX8_battery 6 = .ok (.ireturn, 1) := by decide +kernel
theorem dX8_isFlying_0 : decode cX8_isFlying 0 = .ok (.aload_n 0, 1) := by decide +kernel
theorem dX8_isFlying_1 : decode cX8_isFlying 1 = .ok (.iload_n 1, 1) := by decide +kernel
theorem dX8_isFlying_2 : decode cX8_isFlying 2 = .ok (.iconst 1, 1) := by decide +kernel
theorem dX8_isFlying_3 : decode cX8_isFlying 3 = .ok (.invokevirtual 129, 3) := by decide +kernel
theorem dX8_isFlying_6 : decode cX8_isFlying 6 = .ok (.iconst 1, 1) := by decide +kernel
theorem dX8_isFlying_7 : decode cX8_isFlying 7 = .ok (.if_icmp .ne 7, 3) := by decide +kernel
theorem dX8_isFlying_10 : decode cX8_isFlying 10 = .ok (.iconst 1, 1) := by decide +kernel
theorem dX8_isFlying_11 : decode cX8_isFlying 11 = .ok (.goto 4, 3) := by decide +kernel
theorem dX8_isFlying_14 : decode cX8_isFlying 14 = .ok (.iconst 0, 1) := by decide +kernel
theorem dX8_isFlying_15 : decode cX8_isFlying 15 = .ok (.ireturn, 1) := by decide +kernel
theorem dX8_isInEmergency_0 : decode cX8_isInEmergency 0 = .ok (.aload_n 0, 1) := by decide +kernel
theorem dX8_isInEmergency_1 : decode cX8_isInEmergency 1 = .ok (.iload_n 1, 1) := by decide +kernel
theorem dX8_isInEmergency_2 : decode cX8_isInEmergency 2 = .ok (.iconst 5, 1) := by decide +kernel
theorem dX8_isInEmergency_3 : decode cX8_isInEmergency 3 = .ok (.invokevirtual 129, 3) := by decide +kernel
theorem dX8_isInEmergency_6 : decode cX8_isInEmergency 6 = .ok (.iconst 1, 1) := by decide +kernel
theorem dX8_isInEmergency_7 : decode cX8_isInEmergency 7 = .ok (.if_icmp .ne 7, 3) := by decide +kernel
theorem dX8_isInEmergency_10 : decode cX8_isInEmergency 10 = .ok (.iconst 1, 1) := by decide +kernel
theorem dX8_isInEmergency_11 : decode cX8_isInEmergency 11 = .ok (.goto 4, 3) := by decide +kernel
theorem dX8_isInEmergency_14 : decode cX8_isInEmergency 14 = .ok (.iconst 0, 1) := by decide +kernel
theorem dX8_isInEmergency_15 : decode cX8_isInEmergency 15 = .ok (.ireturn, 1) := by decide +kernel
theorem dX8_target_0 : decode cX8_target 0 = .ok (.aload_n 0, 1) := by decide +kernel
theorem dX8_target_1 : decode cX8_target 1 = .ok (.aload_n 0, 1) := by decide +kernel
theorem dX8_target_2 : decode cX8_target 2 = .ok (.iload_n 1, 1) := by decide +kernel
theorem dX8_target_3 : decode cX8_target 3 = .ok (.invokevirtual 101, 3) := by decide +kernel
theorem dX8_target_6 : decode cX8_target 6 = .ok (.ifCond .ne 7, 3) := by decide +kernel
theorem dX8_target_9 : decode cX8_target 9 = .ok (.iconst 1, 1) := by decide +kernel
theorem dX8_target_10 : decode cX8_target 10 = .ok (.goto 16, 3) := by decide +kernel
theorem dX8_target_13 : decode cX8_target 13 = .ok (.aload_n 0, 1) := by decide +kernel
theorem dX8_target_14 : decode cX8_target 14 = .ok (.iload_n 1, 1) := by decide +kernel
theorem dX8_target_15 : decode cX8_target 15 = .ok (.invokevirtual 132, 3) := by decide +kernel
theorem dX8_target_18 : decode cX8_target 18 = .ok (.ifCond .ge 7, 3) := by decide +kernel
theorem dX8_target_21 : decode cX8_target 21 = .ok (.iconst 2, 1) := by decide +kernel
theorem dX8_target_22 : decode cX8_target 22 = .ok (.goto 4, 3) := by decide +kernel
theorem dX8_target_25 : decode cX8_target 25 = .ok (.iconst 0, 1) := by decide +kernel
theorem dX8_target_26 : decode cX8_target 26 = .ok (.putfield 50, 3) := by decide +kernel
theorem dX8_target_29 : decode cX8_target 29 = .ok (.aload_n 0, 1) := by decide +kernel
theorem dX8_target_30 : decode cX8_target 30 = .ok (.getfield 50, 3) := by decide +kernel
theorem dX8_target_33 : decode cX8_target 33 = .ok (.ifCond .ne 11, 3) := by decide +kernel
theorem dX8_target_36 : decode cX8_target 36 = .ok (.aload_n 0, 1) := by decide +kernel
theorem dX8_target_37 : decode cX8_target 37 = .ok (.iload_n 1, 1) := by decide +kernel
theorem dX8_target_38 : decode cX8_target 38 = .ok (.invokevirtual 132, 3) := by decide +kernel
theorem dX8_target_41 : decode cX8_target 41 = .ok (.goto 4, 3) := by decide +kernel
theorem dX8_target_44 : decode cX8_target 44 = .ok (.iconst 0, 1) := by decide +kernel
theorem dX8_target_45 : decode cX8_target 45 = .ok (.ireturn, 1) := by decide +kernel
theorem dX8_colour_0 : decode cX8_colour 0 = .ok (.aload_n 0, 1) := by decide +kernel
theorem dX8_colour_1 : decode cX8_colour 1 = .ok (.iload_n 1, 1) := by decide +kernel
theorem dX8_colour_2 : decode cX8_colour 2 = .ok (.iconst 3, 1) := by decide +kernel
theorem dX8_colour_3 : decode cX8_colour 3 = .ok (.invokevirtual 129, 3) := by decide +kernel
theorem dX8_colour_6 : decode cX8_colour 6 = .ok (.ireturn, 1) := by decide +kernel
theorem dX8_droneAt_0 : decode cX8_droneAt 0 = .ok (.iload_n 1, 1) := by decide +kernel
theorem dX8_droneAt_1 : decode cX8_droneAt 1 = .ok (.invokestatic 72, 3) := by decide +kernel
theorem dX8_droneAt_4 : decode cX8_droneAt 4 = .ok (.ifCond .ne 9, 3) := by decide +kernel
theorem dX8_droneAt_7 : decode cX8_droneAt 7 = .ok (.aload_n 0, 1) := by decide +kernel
theorem dX8_droneAt_8 : decode cX8_droneAt 8 = .ok (.iconst 1, 1) := by decide +kernel
theorem dX8_droneAt_9 : decode cX8_droneAt 9 = .ok (.invokevirtual 76, 3) := by decide +kernel
theorem dX8_droneAt_12 : decode cX8_droneAt 12 = .ok (.ireturn, 1) := by decide +kernel
theorem dX8_droneAt_13 : decode cX8_droneAt 13 = .ok (.aload_n 0, 1) := by decide +kernel
theorem dX8_droneAt_14 : decode cX8_droneAt 14 = .ok (.iload_n 1, 1) := by decide +kernel
theorem dX8_droneAt_15 : decode cX8_droneAt 15 = .ok (.invokevirtual 79, 3) := by decide +kernel
theorem dX8_droneAt_18 : decode cX8_droneAt 18 = .ok (.istore_n 2, 1) := by decide +kernel
theorem dX8_droneAt_19 : decode cX8_droneAt 19 = .ok (.aload_n 0, 1) := by decide +kernel
theorem dX8_droneAt_20 : decode cX8_droneAt 20 = .ok (.iload_n 2, 1) := by decide +kernel
theorem dX8_droneAt_21 : decode cX8_droneAt 21 = .ok (.ifCond .ge 7, 3) := by decide +kernel
theorem dX8_droneAt_24 : decode cX8_droneAt 24 = .ok (.iconst 2, 1) := by decide +kernel
theorem dX8_droneAt_25 : decode cX8_droneAt 25 = .ok (.goto 4, 3) := by decide +kernel
theorem dX8_droneAt_28 : decode cX8_droneAt 28 = .ok (.iconst 0, 1) := by decide +kernel
theorem dX8_droneAt_29 : decode cX8_droneAt 29 = .ok (.putfield 50, 3) := by decide +kernel
theorem dX8_droneAt_32 : decode cX8_droneAt 32 = .ok (.aload_n 0, 1) := by decide +kernel
theorem dX8_droneAt_33 : decode cX8_droneAt 33 = .ok (.getfield 50, 3) := by decide +kernel
theorem dX8_droneAt_36 : decode cX8_droneAt 36 = .ok (.ifCond .ne 7, 3) := by decide +kernel
theorem dX8_droneAt_39 : decode cX8_droneAt 39 = .ok (.iload_n 2, 1) := by decide +kernel
theorem dX8_droneAt_40 : decode cX8_droneAt 40 = .ok (.goto 4, 3) := by decide +kernel
theorem dX8_droneAt_43 : decode cX8_droneAt 43 = .ok (.iconst 0, 1) := by decide +kernel
theorem dX8_droneAt_44 : decode cX8_droneAt 44 = .ok (.ireturn, 1) := by decide +kernel
theorem dX8_isPad_0 : decode cX8_isPad 0 = .ok (.aload_n 0, 1) := by decide +kernel
theorem dX8_isPad_1 : decode cX8_isPad 1 = .ok (.iload_n 1, 1) := by decide +kernel
theorem dX8_isPad_2 : decode cX8_isPad 2 = .ok (.invokestatic 72, 3) := by decide +kernel
theorem dX8_isPad_5 : decode cX8_isPad 5 = .ok (.ifCond .eq 7, 3) := by decide +kernel
theorem dX8_isPad_8 : decode cX8_isPad 8 = .ok (.iconst 0, 1) := by decide +kernel
theorem dX8_isPad_9 : decode cX8_isPad 9 = .ok (.goto 4, 3) := by decide +kernel
theorem dX8_isPad_12 : decode cX8_isPad 12 = .ok (.iconst 1, 1) := by decide +kernel
theorem dX8_isPad_13 : decode cX8_isPad 13 = .ok (.putfield 50, 3) := by decide +kernel
theorem dX8_isPad_16 : decode cX8_isPad 16 = .ok (.aload_n 0, 1) := by decide +kernel
theorem dX8_isPad_17 : decode cX8_isPad 17 = .ok (.getfield 50, 3) := by decide +kernel
theorem dX8_isPad_20 : decode cX8_isPad 20 = .ok (.ifCond .ne 15, 3) := by decide +kernel
theorem dX8_isPad_23 : decode cX8_isPad 23 = .ok (.aload_n 0, 1) := by decide +kernel
theorem dX8_isPad_24 : decode cX8_isPad 24 = .ok (.iload_n 1, 1) := by decide +kernel
theorem dX8_isPad_25 : decode cX8_isPad 25 = .ok (.invokevirtual 95, 3) := by decide +kernel
theorem dX8_isPad_28 : decode cX8_isPad 28 = .ok (.ifCond .eq 7, 3) := by decide +kernel
theorem dX8_isPad_31 : decode cX8_isPad 31 = .ok (.iconst 1, 1) := by decide +kernel
theorem dX8_isPad_32 : decode cX8_isPad 32 = .ok (.goto 4, 3) := by decide +kernel
theorem dX8_isPad_35 : decode cX8_isPad 35 = .ok (.iconst 0, 1) := by decide +kernel
theorem dX8_isPad_36 : decode cX8_isPad 36 = .ok (.ireturn, 1) := by decide +kernel
theorem dX8_nearest_0 : decode cX8_nearest 0 = .ok (.aload_n 0, 1) := by decide +kernel
theorem dX8_nearest_1 : decode cX8_nearest 1 = .ok (.getfield 16, 3) := by decide +kernel
theorem dX8_nearest_4 : decode cX8_nearest 4 = .ok (.iload_n 1, 1) := by decide +kernel
theorem dX8_nearest_5 : decode cX8_nearest 5 = .ok (.iconst 0, 1) := by decide +kernel
theorem dX8_nearest_6 : decode cX8_nearest 6 = .ok (.invokestatic 64, 3) := by decide +kernel
theorem dX8_nearest_9 : decode cX8_nearest 9 = .ok (.iaload, 1) := by decide +kernel
theorem dX8_nearest_10 : decode cX8_nearest 10 = .ok (.istore_n 2, 1) := by decide +kernel
theorem dX8_nearest_11 : decode cX8_nearest 11 = .ok (.aload_n 0, 1) := by decide +kernel
theorem dX8_nearest_12 : decode cX8_nearest 12 = .ok (.getfield 16, 3) := by decide +kernel
theorem dX8_nearest_15 : decode cX8_nearest 15 = .ok (.bipush 9, 2) := by decide +kernel
theorem dX8_nearest_17 : decode cX8_nearest 17 = .ok (.iaload, 1) := by decide +kernel
theorem dX8_nearest_18 : decode cX8_nearest 18 = .ok (.istore_n 3, 1) := by decide +kernel
theorem dX8_nearest_19 : decode cX8_nearest 19 = .ok (.iconst 1, 1) := by decide +kernel
theorem dX8_nearest_20 : decode cX8_nearest 20 = .ok (.istore 4, 2) := by decide +kernel
theorem dX8_nearest_22 : decode cX8_nearest 22 = .ok (.iload 4, 2) := by decide +kernel
theorem dX8_nearest_24 : decode cX8_nearest 24 = .ok (.aload_n 0, 1) := by decide +kernel
theorem dX8_nearest_25 : decode cX8_nearest 25 = .ok (.getfield 16, 3) := by decide +kernel
theorem dX8_nearest_28 : decode cX8_nearest 28 = .ok (.iconst 1, 1) := by decide +kernel
theorem dX8_nearest_29 : decode cX8_nearest 29 = .ok (.iaload, 1) := by decide +kernel
theorem dX8_nearest_30 : decode cX8_nearest 30 = .ok (.if_icmp .ge 70, 3) := by decide +kernel
theorem dX8_nearest_33 : decode cX8_nearest 33 = .ok (.iload_n 2, 1) := by decide +kernel
theorem dX8_nearest_34 : decode cX8_nearest 34 = .ok (.aload_n 0, 1) := by decide +kernel
theorem dX8_nearest_35 : decode cX8_nearest 35 = .ok (.getfield 16, 3) := by decide +kernel
theorem dX8_nearest_38 : decode cX8_nearest 38 = .ok (.bipush 9, 2) := by decide +kernel
theorem dX8_nearest_40 : decode cX8_nearest 40 = .ok (.iload 4, 2) := by decide +kernel
theorem dX8_nearest_42 : decode cX8_nearest 42 = .ok (.iadd, 1) := by decide +kernel
theorem dX8_nearest_43 : decode cX8_nearest 43 = .ok (.iaload, 1) := by decide +kernel
theorem dX8_nearest_44 : decode cX8_nearest 44 = .ok (.invokestatic 120, 3) := by decide +kernel
theorem dX8_nearest_47 : decode cX8_nearest 47 = .ok (.iload_n 2, 1) := by decide +kernel
theorem dX8_nearest_48 : decode cX8_nearest 48 = .ok (.iload_n 3, 1) := by decide +kernel
theorem dX8_nearest_49 : decode cX8_nearest 49 = .ok (.invokestatic 120, 3) := by decide +kernel
theorem dX8_nearest_52 : decode cX8_nearest 52 = .ok (.isub, 1) := by decide +kernel
theorem dX8_nearest_53 : decode cX8_nearest 53 = .ok (.istore 5, 2) := by decide +kernel
theorem dX8_nearest_55 : decode cX8_nearest 55 = .ok (.iload 5, 2) := by decide +kernel
theorem dX8_nearest_57 : decode cX8_nearest 57 = .ok (.ifCond .lt 22, 3) := by decide +kernel
theorem dX8_nearest_60 : decode cX8_nearest 60 = .ok (.iload 5, 2) := by decide +kernel
theorem dX8_nearest_62 : decode cX8_nearest 62 = .ok (.ifCond .ne 30, 3) := by decide +kernel
theorem dX8_nearest_65 : decode cX8_nearest 65 = .ok (.aload_n 0, 1) := by decide +kernel
theorem dX8_nearest_66 : decode cX8_nearest 66 = .ok (.getfield 16, 3) := by decide +kernel
theorem dX8_nearest_69 : decode cX8_nearest 69 = .ok (.bipush 9, 2) := by decide +kernel
theorem dX8_nearest_71 : decode cX8_nearest 71 = .ok (.iload 4, 2) := by decide +kernel
theorem dX8_nearest_73 : decode cX8_nearest 73 = .ok (.iadd, 1) := by decide +kernel
theorem dX8_nearest_74 : decode cX8_nearest 74 = .ok (.iaload, 1) := by decide +kernel
theorem dX8_nearest_75 : decode cX8_nearest 75 = .ok (.iload_n 3, 1) := by decide +kernel
theorem dX8_nearest_76 : decode cX8_nearest 76 = .ok (.if_icmp .ge 16, 3) := by decide +kernel
theorem dX8_nearest_79 : decode cX8_nearest 79 = .ok (.aload_n 0, 1) := by decide +kernel
theorem dX8_nearest_80 : decode cX8_nearest 80 = .ok (.getfield 16, 3) := by decide +kernel
theorem dX8_nearest_83 : decode cX8_nearest 83 = .ok (.bipush 9, 2) := by decide +kernel
theorem dX8_nearest_85 : decode cX8_nearest 85 = .ok (.iload 4, 2) := by decide +kernel
theorem dX8_nearest_87 : decode cX8_nearest 87 = .ok (.iadd, 1) := by decide +kernel
theorem dX8_nearest_88 : decode cX8_nearest 88 = .ok (.iaload, 1) := by decide +kernel
theorem dX8_nearest_89 : decode cX8_nearest 89 = .ok (.goto 4, 3) := by decide +kernel
theorem dX8_nearest_92 : decode cX8_nearest 92 = .ok (.iload_n 3, 1) := by decide +kernel
theorem dX8_nearest_93 : decode cX8_nearest 93 = .ok (.istore_n 3, 1) := by decide +kernel
theorem dX8_nearest_94 : decode cX8_nearest 94 = .ok (.iinc 4 1, 3) := by decide +kernel
theorem dX8_nearest_97 : decode cX8_nearest 97 = .ok (.goto (-75), 3) := by decide +kernel
theorem dX8_nearest_100 : decode cX8_nearest 100 = .ok (.iload_n 3, 1) := by decide +kernel
theorem dX8_nearest_101 : decode cX8_nearest 101 = .ok (.ireturn, 1) := by decide +kernel
theorem dX8_nearestPad_0 : decode cX8_nearestPad 0 = .ok (.aload_n 0, 1) := by decide +kernel
theorem dX8_nearestPad_1 : decode cX8_nearestPad 1 = .ok (.aload_n 0, 1) := by decide +kernel
theorem dX8_nearestPad_2 : decode cX8_nearestPad 2 = .ok (.iload_n 1, 1) := by decide +kernel
theorem dX8_nearestPad_3 : decode cX8_nearestPad 3 = .ok (.invokevirtual 101, 3) := by decide +kernel
theorem dX8_nearestPad_6 : decode cX8_nearestPad 6 = .ok (.ifCond .ne 7, 3) := by decide +kernel
theorem dX8_nearestPad_9 : decode cX8_nearestPad 9 = .ok (.iconst 1, 1) := by decide +kernel
theorem dX8_nearestPad_10 : decode cX8_nearestPad 10 = .ok (.goto 17, 3) := by decide +kernel
theorem dX8_nearestPad_13 : decode cX8_nearestPad 13 = .ok (.aload_n 0, 1) := by decide +kernel
theorem dX8_nearestPad_14 : decode cX8_nearestPad 14 = .ok (.getfield 16, 3) := by decide +kernel
theorem dX8_nearestPad_17 : decode cX8_nearestPad 17 = .ok (.iconst 1, 1) := by decide +kernel
theorem dX8_nearestPad_18 : decode cX8_nearestPad 18 = .ok (.iaload, 1) := by decide +kernel
theorem dX8_nearestPad_19 : decode cX8_nearestPad 19 = .ok (.ifCond .ne 7, 3) := by decide +kernel
theorem dX8_nearestPad_22 : decode cX8_nearestPad 22 = .ok (.iconst 2, 1) := by decide +kernel
theorem dX8_nearestPad_23 : decode cX8_nearestPad 23 = .ok (.goto 4, 3) := by decide +kernel
theorem dX8_nearestPad_26 : decode cX8_nearestPad 26 = .ok (.iconst 0, 1) := by decide +kernel
theorem dX8_nearestPad_27 : decode cX8_nearestPad 27 = .ok (.putfield 50, 3) := by decide +kernel
theorem dX8_nearestPad_30 : decode cX8_nearestPad 30 = .ok (.aload_n 0, 1) := by decide +kernel
theorem dX8_nearestPad_31 : decode cX8_nearestPad 31 = .ok (.getfield 50, 3) := by decide +kernel
theorem dX8_nearestPad_34 : decode cX8_nearestPad 34 = .ok (.ifCond .ne 11, 3) := by decide +kernel
theorem dX8_nearestPad_37 : decode cX8_nearestPad 37 = .ok (.aload_n 0, 1) := by decide +kernel
theorem dX8_nearestPad_38 : decode cX8_nearestPad 38 = .ok (.iload_n 1, 1) := by decide +kernel
theorem dX8_nearestPad_39 : decode cX8_nearestPad 39 = .ok (.invokevirtual 135, 3) := by decide +kernel
theorem dX8_nearestPad_42 : decode cX8_nearestPad 42 = .ok (.goto 4, 3) := by decide +kernel
theorem dX8_nearestPad_45 : decode cX8_nearestPad 45 = .ok (.iconst 0, 1) := by decide +kernel
theorem dX8_nearestPad_46 : decode cX8_nearestPad 46 = .ok (.ireturn, 1) := by decide +kernel
theorem dX8_nearestPadByRings_0 : decode cX8_nearestPadByRings 0 = .ok (.aload_n 0, 1) := by decide +kernel
theorem dX8_nearestPadByRings_1 : decode cX8_nearestPadByRings 1 = .ok (.iload_n 1, 1) := by decide +kernel
theorem dX8_nearestPadByRings_2 : decode cX8_nearestPadByRings 2 = .ok (.invokevirtual 138, 3) := by decide +kernel
theorem dX8_nearestPadByRings_5 : decode cX8_nearestPadByRings 5 = .ok (.ireturn, 1) := by decide +kernel
theorem dX8_belongs_0 : decode cX8_belongs 0 = .ok (.iload_n 2, 1) := by decide +kernel
theorem dX8_belongs_1 : decode cX8_belongs 1 = .ok (.bipush 32, 2) := by decide +kernel
theorem dX8_belongs_3 : decode cX8_belongs 3 = .ok (.if_icmp .ge 15, 3) := by decide +kernel
theorem dX8_belongs_6 : decode cX8_belongs 6 = .ok (.aload_n 0, 1) := by decide +kernel
theorem dX8_belongs_7 : decode cX8_belongs 7 = .ok (.getfield 16, 3) := by decide +kernel
theorem dX8_belongs_10 : decode cX8_belongs 10 = .ok (.bipush 73, 2) := by decide +kernel
theorem dX8_belongs_12 : decode cX8_belongs 12 = .ok (.iload_n 1, 1) := by decide +kernel
theorem dX8_belongs_13 : decode cX8_belongs 13 = .ok (.iadd, 1) := by decide +kernel
theorem dX8_belongs_14 : decode cX8_belongs 14 = .ok (.iaload, 1) := by decide +kernel
theorem dX8_belongs_15 : decode cX8_belongs 15 = .ok (.goto 12, 3) := by decide +kernel
theorem dX8_belongs_18 : decode cX8_belongs 18 = .ok (.aload_n 0, 1) := by decide +kernel
theorem dX8_belongs_19 : decode cX8_belongs 19 = .ok (.getfield 16, 3) := by decide +kernel
theorem dX8_belongs_22 : decode cX8_belongs 22 = .ok (.bipush 77, 2) := by decide +kernel
theorem dX8_belongs_24 : decode cX8_belongs 24 = .ok (.iload_n 1, 1) := by decide +kernel
theorem dX8_belongs_25 : decode cX8_belongs 25 = .ok (.iadd, 1) := by decide +kernel
theorem dX8_belongs_26 : decode cX8_belongs 26 = .ok (.iaload, 1) := by decide +kernel
theorem dX8_belongs_27 : decode cX8_belongs 27 = .ok (.istore_n 3, 1) := by decide +kernel
theorem dX8_belongs_28 : decode cX8_belongs 28 = .ok (.iload_n 3, 1) := by decide +kernel
theorem dX8_belongs_29 : decode cX8_belongs 29 = .ok (.iload_n 2, 1) := by decide +kernel
theorem dX8_belongs_30 : decode cX8_belongs 30 = .ok (.bipush 32, 2) := by decide +kernel
theorem dX8_belongs_32 : decode cX8_belongs 32 = .ok (.irem, 1) := by decide +kernel
theorem dX8_belongs_33 : decode cX8_belongs 33 = .ok (.ishr, 1) := by decide +kernel
theorem dX8_belongs_34 : decode cX8_belongs 34 = .ok (.iconst 1, 1) := by decide +kernel
theorem dX8_belongs_35 : decode cX8_belongs 35 = .ok (.iand, 1) := by decide +kernel
theorem dX8_belongs_36 : decode cX8_belongs 36 = .ok (.iconst 1, 1) := by decide +kernel
theorem dX8_belongs_37 : decode cX8_belongs 37 = .ok (.if_icmp .ne 7, 3) := by decide +kernel
theorem dX8_belongs_40 : decode cX8_belongs 40 = .ok (.iconst 1, 1) := by decide +kernel
theorem dX8_belongs_41 : decode cX8_belongs 41 = .ok (.goto 4, 3) := by decide +kernel
theorem dX8_belongs_44 : decode cX8_belongs 44 = .ok (.iconst 0, 1) := by decide +kernel
theorem dX8_belongs_45 : decode cX8_belongs 45 = .ok (.ireturn, 1) := by decide +kernel
theorem dX8_cells_0 : decode cX8_cells 0 = .ok (.iconst 0, 1) := by decide +kernel
theorem dX8_cells_1 : decode cX8_cells 1 = .ok (.istore_n 2, 1) := by decide +kernel
theorem dX8_cells_2 : decode cX8_cells 2 = .ok (.iconst 0, 1) := by decide +kernel
theorem dX8_cells_3 : decode cX8_cells 3 = .ok (.istore_n 3, 1) := by decide +kernel
theorem dX8_cells_4 : decode cX8_cells 4 = .ok (.iload_n 3, 1) := by decide +kernel
theorem dX8_cells_5 : decode cX8_cells 5 = .ok (.bipush 64, 2) := by decide +kernel
theorem dX8_cells_7 : decode cX8_cells 7 = .ok (.if_icmp .ge 26, 3) := by decide +kernel
theorem dX8_cells_10 : decode cX8_cells 10 = .ok (.iload_n 2, 1) := by decide +kernel
theorem dX8_cells_11 : decode cX8_cells 11 = .ok (.aload_n 0, 1) := by decide +kernel
theorem dX8_cells_12 : decode cX8_cells 12 = .ok (.iload_n 1, 1) := by decide +kernel
theorem dX8_cells_13 : decode cX8_cells 13 = .ok (.iload_n 3, 1) := by decide +kernel
theorem dX8_cells_14 : decode cX8_cells 14 = .ok (.invokevirtual 141, 3) := by decide +kernel
theorem dX8_cells_17 : decode cX8_cells 17 = .ok (.ifCond .eq 7, 3) := by decide +kernel
theorem dX8_cells_20 : decode cX8_cells 20 = .ok (.iconst 1, 1) := by decide +kernel
theorem dX8_cells_21 : decode cX8_cells 21 = .ok (.goto 4, 3) := by decide +kernel
theorem dX8_cells_24 : decode cX8_cells 24 = .ok (.iconst 0, 1) := by decide +kernel
theorem dX8_cells_25 : decode cX8_cells 25 = .ok (.iadd, 1) := by decide +kernel
theorem dX8_cells_26 : decode cX8_cells 26 = .ok (.istore_n 2, 1) := by decide +kernel
theorem dX8_cells_27 : decode cX8_cells 27 = .ok (.iinc 3 1, 3) := by decide +kernel
theorem dX8_cells_30 : decode cX8_cells 30 = .ok (.goto (-26), 3) := by decide +kernel
theorem dX8_cells_33 : decode cX8_cells 33 = .ok (.iload_n 2, 1) := by decide +kernel
theorem dX8_cells_34 : decode cX8_cells 34 = .ok (.ireturn, 1) := by decide +kernel
theorem dX8_forms_0 : decode cX8_forms 0 = .ok (.iload_n 1, 1) := by decide +kernel
theorem dX8_forms_1 : decode cX8_forms 1 = .ok (.invokestatic 145, 3) := by decide +kernel
theorem dX8_forms_4 : decode cX8_forms 4 = .ok (.ifCond .eq 10, 3) := by decide +kernel
theorem dX8_forms_7 : decode cX8_forms 7 = .ok (.iload_n 2, 1) := by decide +kernel
theorem dX8_forms_8 : decode cX8_forms 8 = .ok (.invokestatic 72, 3) := by decide +kernel
theorem dX8_forms_11 : decode cX8_forms 11 = .ok (.ifCond .ne 9, 3) := by decide +kernel
theorem dX8_forms_14 : decode cX8_forms 14 = .ok (.aload_n 0, 1) := by decide +kernel
theorem dX8_forms_15 : decode cX8_forms 15 = .ok (.iconst 1, 1) := by decide +kernel
theorem dX8_forms_16 : decode cX8_forms 16 = .ok (.invokevirtual 76, 3) := by decide +kernel
theorem dX8_forms_19 : decode cX8_forms 19 = .ok (.ireturn, 1) := by decide +kernel
theorem dX8_forms_20 : decode cX8_forms 20 = .ok (.aload_n 0, 1) := by decide +kernel
theorem dX8_forms_21 : decode cX8_forms 21 = .ok (.iload_n 1, 1) := by decide +kernel
theorem dX8_forms_22 : decode cX8_forms 22 = .ok (.iload_n 2, 1) := by decide +kernel
theorem dX8_forms_23 : decode cX8_forms 23 = .ok (.invokevirtual 141, 3) := by decide +kernel
theorem dX8_forms_26 : decode cX8_forms 26 = .ok (.ifCond .eq 9, 3) := by decide +kernel
theorem dX8_forms_29 : decode cX8_forms 29 = .ok (.aload_n 0, 1) := by decide +kernel
theorem dX8_forms_30 : decode cX8_forms 30 = .ok (.iconst 2, 1) := by decide +kernel
theorem dX8_forms_31 : decode cX8_forms 31 = .ok (.invokevirtual 76, 3) := by decide +kernel
theorem dX8_forms_34 : decode cX8_forms 34 = .ok (.ireturn, 1) := by decide +kernel
theorem dX8_forms_35 : decode cX8_forms 35 = .ok (.aload_n 0, 1) := by decide +kernel
theorem dX8_forms_36 : decode cX8_forms 36 = .ok (.iload_n 1, 1) := by decide +kernel
theorem dX8_forms_37 : decode cX8_forms 37 = .ok (.invokevirtual 148, 3) := by decide +kernel
theorem dX8_forms_40 : decode cX8_forms 40 = .ok (.bipush 10, 2) := by decide +kernel
theorem dX8_forms_42 : decode cX8_forms 42 = .ok (.if_icmp .ne 9, 3) := by decide +kernel
theorem dX8_forms_45 : decode cX8_forms 45 = .ok (.aload_n 0, 1) := by decide +kernel
theorem dX8_forms_46 : decode cX8_forms 46 = .ok (.iconst 3, 1) := by decide +kernel
theorem dX8_forms_47 : decode cX8_forms 47 = .ok (.invokevirtual 76, 3) := by decide +kernel
theorem dX8_forms_50 : decode cX8_forms 50 = .ok (.ireturn, 1) := by decide +kernel
theorem dX8_forms_51 : decode cX8_forms 51 = .ok (.iload_n 2, 1) := by decide +kernel
theorem dX8_forms_52 : decode cX8_forms 52 = .ok (.bipush 32, 2) := by decide +kernel
theorem dX8_forms_54 : decode cX8_forms 54 = .ok (.if_icmp .ge 10, 3) := by decide +kernel
theorem dX8_forms_57 : decode cX8_forms 57 = .ok (.bipush 73, 2) := by decide +kernel
theorem dX8_forms_59 : decode cX8_forms 59 = .ok (.iload_n 1, 1) := by decide +kernel
theorem dX8_forms_60 : decode cX8_forms 60 = .ok (.iadd, 1) := by decide +kernel
theorem dX8_forms_61 : decode cX8_forms 61 = .ok (.goto 7, 3) := by decide +kernel
theorem dX8_forms_64 : decode cX8_forms 64 = .ok (.bipush 77, 2) := by decide +kernel
theorem dX8_forms_66 : decode cX8_forms 66 = .ok (.iload_n 1, 1) := by decide +kernel
theorem dX8_forms_67 : decode cX8_forms 67 = .ok (.iadd, 1) := by decide +kernel
theorem dX8_forms_68 : decode cX8_forms 68 = .ok (.istore_n 3, 1) := by decide +kernel
theorem dX8_forms_69 : decode cX8_forms 69 = .ok (.aload_n 0, 1) := by decide +kernel
theorem dX8_forms_70 : decode cX8_forms 70 = .ok (.getfield 16, 3) := by decide +kernel
theorem dX8_forms_73 : decode cX8_forms 73 = .ok (.iload_n 3, 1) := by decide +kernel
theorem dX8_forms_74 : decode cX8_forms 74 = .ok (.dup2, 1) := by decide +kernel
theorem dX8_forms_75 : decode cX8_forms 75 = .ok (.iaload, 1) := by decide +kernel
theorem dX8_forms_76 : decode cX8_forms 76 = .ok (.iconst 1, 1) := by decide +kernel
theorem dX8_forms_77 : decode cX8_forms 77 = .ok (.iload_n 2, 1) := by decide +kernel
theorem dX8_forms_78 : decode cX8_forms 78 = .ok (.bipush 32, 2) := by decide +kernel
theorem dX8_forms_80 : decode cX8_forms 80 = .ok (.irem, 1) := by decide +kernel
theorem dX8_forms_81 : decode cX8_forms 81 = .ok (.ishl, 1) := by decide +kernel
theorem dX8_forms_82 : decode cX8_forms 82 = .ok (.ior, 1) := by decide +kernel
theorem dX8_forms_83 : decode cX8_forms 83 = .ok (.iastore, 1) := by decide +kernel
theorem dX8_forms_84 : decode cX8_forms 84 = .ok (.aload_n 0, 1) := by decide +kernel
theorem dX8_forms_85 : decode cX8_forms 85 = .ok (.iload_n 1, 1) := by decide +kernel
theorem dX8_forms_86 : decode cX8_forms 86 = .ok (.invokevirtual 148, 3) := by decide +kernel
theorem dX8_forms_89 : decode cX8_forms 89 = .ok (.ireturn, 1) := by decide +kernel
theorem dX8_addToFormation_0 : decode cX8_addToFormation 0 = .ok (.aload_n 0, 1) := by decide +kernel
theorem dX8_addToFormation_1 : decode cX8_addToFormation 1 = .ok (.invokevirtual 86, 3) := by decide +kernel
theorem dX8_addToFormation_4 : decode cX8_addToFormation 4 = .ok (.aload_n 0, 1) := by decide +kernel
theorem dX8_addToFormation_5 : decode cX8_addToFormation 5 = .ok (.aload_n 0, 1) := by decide +kernel
theorem dX8_addToFormation_6 : decode cX8_addToFormation 6 = .ok (.iload_n 1, 1) := by decide +kernel
theorem dX8_addToFormation_7 : decode cX8_addToFormation 7 = .ok (.iload_n 2, 1) := by decide +kernel
theorem dX8_addToFormation_8 : decode cX8_addToFormation 8 = .ok (.invokevirtual 151, 3) := by decide +kernel
theorem dX8_addToFormation_11 : decode cX8_addToFormation 11 = .ok (.invokevirtual 92, 3) := by decide +kernel
theorem dX8_addToFormation_14 : decode cX8_addToFormation 14 = .ok (.ireturn, 1) := by decide +kernel
theorem dX8_clears_0 : decode cX8_clears 0 = .ok (.iload_n 1, 1) := by decide +kernel
theorem dX8_clears_1 : decode cX8_clears 1 = .ok (.invokestatic 145, 3) := by decide +kernel
theorem dX8_clears_4 : decode cX8_clears 4 = .ok (.ifCond .ne 9, 3) := by decide +kernel
theorem dX8_clears_7 : decode cX8_clears 7 = .ok (.aload_n 0, 1) := by decide +kernel
theorem dX8_clears_8 : decode cX8_clears 8 = .ok (.iconst 1, 1) := by decide +kernel
theorem dX8_clears_9 : decode cX8_clears 9 = .ok (.invokevirtual 76, 3) := by decide +kernel
theorem dX8_clears_12 : decode cX8_clears 12 = .ok (.ireturn, 1) := by decide +kernel
theorem dX8_clears_13 : decode cX8_clears 13 = .ok (.aload_n 0, 1) := by decide +kernel
theorem dX8_clears_14 : decode cX8_clears 14 = .ok (.iload_n 1, 1) := by decide +kernel
theorem dX8_clears_15 : decode cX8_clears 15 = .ok (.invokevirtual 148, 3) := by decide +kernel
theorem dX8_clears_18 : decode cX8_clears 18 = .ok (.istore_n 2, 1) := by decide +kernel
theorem dX8_clears_19 : decode cX8_clears 19 = .ok (.aload_n 0, 1) := by decide +kernel
theorem dX8_clears_20 : decode cX8_clears 20 = .ok (.getfield 16, 3) := by decide +kernel
theorem dX8_clears_23 : decode cX8_clears 23 = .ok (.bipush 73, 2) := by decide +kernel
theorem dX8_clears_25 : decode cX8_clears 25 = .ok (.iload_n 1, 1) := by decide +kernel
theorem dX8_clears_26 : decode cX8_clears 26 = .ok (.iadd, 1) := by decide +kernel
theorem dX8_clears_27 : decode cX8_clears 27 = .ok (.iconst 0, 1) := by decide +kernel
theorem dX8_clears_28 : decode cX8_clears 28 = .ok (.iastore, 1) := by decide +kernel
theorem dX8_clears_29 : decode cX8_clears 29 = .ok (.aload_n 0, 1) := by decide +kernel
theorem dX8_clears_30 : decode cX8_clears 30 = .ok (.getfield 16, 3) := by decide +kernel
theorem dX8_clears_33 : decode cX8_clears 33 = .ok (.bipush 77, 2) := by decide +kernel
theorem dX8_clears_35 : decode cX8_clears 35 = .ok (.iload_n 1, 1) := by decide +kernel
theorem dX8_clears_36 : decode cX8_clears 36 = .ok (.iadd, 1) := by decide +kernel
theorem dX8_clears_37 : decode cX8_clears 37 = .ok (.iconst 0, 1) := by decide +kernel
theorem dX8_clears_38 : decode cX8_clears 38 = .ok (.iastore, 1) := by decide +kernel
theorem dX8_clears_39 : decode cX8_clears 39 = .ok (.iload_n 2, 1) := by decide +kernel
theorem dX8_clears_40 : decode cX8_clears 40 = .ok (.ireturn, 1) := by decide +kernel
theorem dX8_clearFormation_0 : decode cX8_clearFormation 0 = .ok (.aload_n 0, 1) := by decide +kernel
theorem dX8_clearFormation_1 : decode cX8_clearFormation 1 = .ok (.invokevirtual 86, 3) := by decide +kernel
theorem dX8_clearFormation_4 : decode cX8_clearFormation 4 = .ok (.aload_n 0, 1) := by decide +kernel
theorem dX8_clearFormation_5 : decode cX8_clearFormation 5 = .ok (.aload_n 0, 1) := by decide +kernel
theorem dX8_clearFormation_6 : decode cX8_clearFormation 6 = .ok (.iload_n 1, 1) := by decide +kernel
theorem dX8_clearFormation_7 : decode cX8_clearFormation 7 = .ok (.invokevirtual 154, 3) := by decide +kernel
theorem dX8_clearFormation_10 : decode cX8_clearFormation 10 = .ok (.invokevirtual 92, 3) := by decide +kernel
theorem dX8_clearFormation_13 : decode cX8_clearFormation 13 = .ok (.ireturn, 1) := by decide +kernel
theorem dX8_takesPart_0 : decode cX8_takesPart 0 = .ok (.aload_n 0, 1) := by decide +kernel
theorem dX8_takesPart_1 : decode cX8_takesPart 1 = .ok (.iload_n 1, 1) := by decide +kernel
theorem dX8_takesPart_2 : decode cX8_takesPart 2 = .ok (.invokevirtual 104, 3) := by decide +kernel
theorem dX8_takesPart_5 : decode cX8_takesPart 5 = .ok (.ifCond .eq 15, 3) := by decide +kernel
theorem dX8_takesPart_8 : decode cX8_takesPart 8 = .ok (.aload_n 0, 1) := by decide +kernel
theorem dX8_takesPart_9 : decode cX8_takesPart 9 = .ok (.iload_n 1, 1) := by decide +kernel
theorem dX8_takesPart_10 : decode cX8_takesPart 10 = .ok (.invokevirtual 117, 3) := by decide +kernel
theorem dX8_takesPart_13 : decode cX8_takesPart 13 = .ok (.ifCond .ne 7, 3) := by decide +kernel
theorem dX8_takesPart_16 : decode cX8_takesPart 16 = .ok (.iconst 1, 1) := by decide +kernel
theorem dX8_takesPart_17 : decode cX8_takesPart 17 = .ok (.goto 4, 3) := by decide +kernel
theorem dX8_takesPart_20 : decode cX8_takesPart 20 = .ok (.iconst 0, 1) := by decide +kernel
theorem dX8_takesPart_21 : decode cX8_takesPart 21 = .ok (.ireturn, 1) := by decide +kernel
theorem dX8_nearestFor_0 : decode cX8_nearestFor 0 = .ok (.iconst (-1), 1) := by decide +kernel
theorem dX8_nearestFor_1 : decode cX8_nearestFor 1 = .ok (.istore_n 2, 1) := by decide +kernel
theorem dX8_nearestFor_2 : decode cX8_nearestFor 2 = .ok (.iconst 0, 1) := by decide +kernel
theorem dX8_nearestFor_3 : decode cX8_nearestFor 3 = .ok (.istore_n 3, 1) := by decide +kernel
theorem dX8_nearestFor_4 : decode cX8_nearestFor 4 = .ok (.iload_n 3, 1) := by decide +kernel
theorem dX8_nearestFor_5 : decode cX8_nearestFor 5 = .ok (.aload_n 0, 1) := by decide +kernel
theorem dX8_nearestFor_6 : decode cX8_nearestFor 6 = .ok (.getfield 16, 3) := by decide +kernel
theorem dX8_nearestFor_9 : decode cX8_nearestFor 9 = .ok (.iconst 0, 1) := by decide +kernel
theorem dX8_nearestFor_10 : decode cX8_nearestFor 10 = .ok (.iaload, 1) := by decide +kernel
theorem dX8_nearestFor_11 : decode cX8_nearestFor 11 = .ok (.if_icmp .ge 69, 3) := by decide +kernel
theorem dX8_nearestFor_14 : decode cX8_nearestFor 14 = .ok (.aload_n 0, 1) := by decide +kernel
theorem dX8_nearestFor_15 : decode cX8_nearestFor 15 = .ok (.iload_n 3, 1) := by decide +kernel
theorem dX8_nearestFor_16 : decode cX8_nearestFor 16 = .ok (.invokevirtual 157, 3) := by decide +kernel
theorem dX8_nearestFor_19 : decode cX8_nearestFor 19 = .ok (.ifCond .eq 55, 3) := by decide +kernel
theorem dX8_nearestFor_22 : decode cX8_nearestFor 22 = .ok (.aload_n 0, 1) := by decide +kernel
theorem dX8_nearestFor_23 : decode cX8_nearestFor 23 = .ok (.iload_n 3, 1) := by decide +kernel
theorem dX8_nearestFor_24 : decode cX8_nearestFor 24 = .ok (.invokevirtual 132, 3) := by decide +kernel
theorem dX8_nearestFor_27 : decode cX8_nearestFor 27 = .ok (.ifCond .lt 6, 3) := by decide +kernel
theorem dX8_nearestFor_30 : decode cX8_nearestFor 30 = .ok (.goto 44, 3) := by decide +kernel
theorem dX8_nearestFor_33 : decode cX8_nearestFor 33 = .ok (.iload_n 2, 1) := by decide +kernel
theorem dX8_nearestFor_34 : decode cX8_nearestFor 34 = .ok (.ifCond .lt 34, 3) := by decide +kernel
theorem dX8_nearestFor_37 : decode cX8_nearestFor 37 = .ok (.aload_n 0, 1) := by decide +kernel
theorem dX8_nearestFor_38 : decode cX8_nearestFor 38 = .ok (.getfield 16, 3) := by decide +kernel
theorem dX8_nearestFor_41 : decode cX8_nearestFor 41 = .ok (.iload_n 3, 1) := by decide +kernel
theorem dX8_nearestFor_42 : decode cX8_nearestFor 42 = .ok (.iconst 0, 1) := by decide +kernel
theorem dX8_nearestFor_43 : decode cX8_nearestFor 43 = .ok (.invokestatic 64, 3) := by decide +kernel
theorem dX8_nearestFor_46 : decode cX8_nearestFor 46 = .ok (.iaload, 1) := by decide +kernel
theorem dX8_nearestFor_47 : decode cX8_nearestFor 47 = .ok (.iload_n 1, 1) := by decide +kernel
theorem dX8_nearestFor_48 : decode cX8_nearestFor 48 = .ok (.invokestatic 120, 3) := by decide +kernel
theorem dX8_nearestFor_51 : decode cX8_nearestFor 51 = .ok (.aload_n 0, 1) := by decide +kernel
theorem dX8_nearestFor_52 : decode cX8_nearestFor 52 = .ok (.getfield 16, 3) := by decide +kernel
theorem dX8_nearestFor_55 : decode cX8_nearestFor 55 = .ok (.iload_n 2, 1) := by decide +kernel
theorem dX8_nearestFor_56 : decode cX8_nearestFor 56 = .ok (.iconst 0, 1) := by decide +kernel
theorem dX8_nearestFor_57 : decode cX8_nearestFor 57 = .ok (.invokestatic 64, 3) := by decide +kernel
theorem dX8_nearestFor_60 : decode cX8_nearestFor 60 = .ok (.iaload, 1) := by decide +kernel
theorem dX8_nearestFor_61 : decode cX8_nearestFor 61 = .ok (.iload_n 1, 1) := by decide +kernel
theorem dX8_nearestFor_62 : decode cX8_nearestFor 62 = .ok (.invokestatic 120, 3) := by decide +kernel
theorem dX8_nearestFor_65 : decode cX8_nearestFor 65 = .ok (.if_icmp .ge 7, 3) := by decide +kernel
theorem dX8_nearestFor_68 : decode cX8_nearestFor 68 = .ok (.iload_n 3, 1) := by decide +kernel
theorem dX8_nearestFor_69 : decode cX8_nearestFor 69 = .ok (.goto 4, 3) := by decide +kernel
theorem dX8_nearestFor_72 : decode cX8_nearestFor 72 = .ok (.iload_n 2, 1) := by decide +kernel
theorem dX8_nearestFor_73 : decode cX8_nearestFor 73 = .ok (.istore_n 2, 1) := by decide +kernel
theorem dX8_nearestFor_74 : decode cX8_nearestFor 74 = .ok (.iinc 3 1, 3) := by decide +kernel
theorem dX8_nearestFor_77 : decode cX8_nearestFor 77 = .ok (.goto (-73), 3) := by decide +kernel
theorem dX8_nearestFor_80 : decode cX8_nearestFor 80 = .ok (.iload_n 2, 1) := by decide +kernel
theorem dX8_nearestFor_81 : decode cX8_nearestFor 81 = .ok (.ireturn, 1) := by decide +kernel
theorem dX8_assigns_0 : decode cX8_assigns 0 = .ok (.iload_n 1, 1) := by decide +kernel
theorem dX8_assigns_1 : decode cX8_assigns 1 = .ok (.invokestatic 145, 3) := by decide +kernel
theorem dX8_assigns_4 : decode cX8_assigns 4 = .ok (.ifCond .ne 9, 3) := by decide +kernel
theorem dX8_assigns_7 : decode cX8_assigns 7 = .ok (.aload_n 0, 1) := by decide +kernel
theorem dX8_assigns_8 : decode cX8_assigns 8 = .ok (.iconst 1, 1) := by decide +kernel
theorem dX8_assigns_9 : decode cX8_assigns 9 = .ok (.invokevirtual 76, 3) := by decide +kernel
theorem dX8_assigns_12 : decode cX8_assigns 12 = .ok (.ireturn, 1) := by decide +kernel
theorem dX8_assigns_13 : decode cX8_assigns 13 = .ok (.aload_n 0, 1) := by decide +kernel
theorem dX8_assigns_14 : decode cX8_assigns 14 = .ok (.iload_n 1, 1) := by decide +kernel
theorem dX8_assigns_15 : decode cX8_assigns 15 = .ok (.invokevirtual 148, 3) := by decide +kernel
theorem dX8_assigns_18 : decode cX8_assigns 18 = .ok (.ifCond .ne 9, 3) := by decide +kernel
theorem dX8_assigns_21 : decode cX8_assigns 21 = .ok (.aload_n 0, 1) := by decide +kernel
theorem dX8_assigns_22 : decode cX8_assigns 22 = .ok (.iconst 2, 1) := by decide +kernel
theorem dX8_assigns_23 : decode cX8_assigns 23 = .ok (.invokevirtual 76, 3) := by decide +kernel
theorem dX8_assigns_26 : decode cX8_assigns 26 = .ok (.ireturn, 1) := by decide +kernel
theorem dX8_assigns_27 : decode cX8_assigns 27 = .ok (.iconst 0, 1) := by decide +kernel
theorem dX8_assigns_28 : decode cX8_assigns 28 = .ok (.istore_n 2, 1) := by decide +kernel
theorem dX8_assigns_29 : decode cX8_assigns 29 = .ok (.iconst 0, 1) := by decide +kernel
theorem dX8_assigns_30 : decode cX8_assigns 30 = .ok (.istore_n 3, 1) := by decide +kernel
theorem dX8_assigns_31 : decode cX8_assigns 31 = .ok (.iload_n 3, 1) := by decide +kernel
theorem dX8_assigns_32 : decode cX8_assigns 32 = .ok (.aload_n 0, 1) := by decide +kernel
theorem dX8_assigns_33 : decode cX8_assigns 33 = .ok (.getfield 16, 3) := by decide +kernel
theorem dX8_assigns_36 : decode cX8_assigns 36 = .ok (.iconst 0, 1) := by decide +kernel
theorem dX8_assigns_37 : decode cX8_assigns 37 = .ok (.iaload, 1) := by decide +kernel
theorem dX8_assigns_38 : decode cX8_assigns 38 = .ok (.if_icmp .ge 28, 3) := by decide +kernel
theorem dX8_assigns_41 : decode cX8_assigns 41 = .ok (.aload_n 0, 1) := by decide +kernel
theorem dX8_assigns_42 : decode cX8_assigns 42 = .ok (.iload_n 3, 1) := by decide +kernel
theorem dX8_assigns_43 : decode cX8_assigns 43 = .ok (.invokevirtual 157, 3) := by decide +kernel
theorem dX8_assigns_46 : decode cX8_assigns 46 = .ok (.ifCond .eq 14, 3) := by decide +kernel
theorem dX8_assigns_49 : decode cX8_assigns 49 = .ok (.aload_n 0, 1) := by decide +kernel
theorem dX8_assigns_50 : decode cX8_assigns 50 = .ok (.getfield 16, 3) := by decide +kernel
theorem dX8_assigns_53 : decode cX8_assigns 53 = .ok (.iload_n 3, 1) := by decide +kernel
theorem dX8_assigns_54 : decode cX8_assigns 54 = .ok (.iconst 4, 1) := by decide +kernel
theorem dX8_assigns_55 : decode cX8_assigns 55 = .ok (.invokestatic 64, 3) := by decide +kernel
theorem dX8_assigns_58 : decode cX8_assigns 58 = .ok (.iconst 0, 1) := by decide +kernel
theorem dX8_assigns_59 : decode cX8_assigns 59 = .ok (.iastore, 1) := by decide +kernel
theorem dX8_assigns_60 : decode cX8_assigns 60 = .ok (.iinc 3 1, 3) := by decide +kernel
theorem dX8_assigns_63 : decode cX8_assigns 63 = .ok (.goto (-32), 3) := by decide +kernel
theorem dX8_assigns_66 : decode cX8_assigns 66 = .ok (.iconst 0, 1) := by decide +kernel
theorem dX8_assigns_67 : decode cX8_assigns 67 = .ok (.istore_n 3, 1) := by decide +kernel
theorem dX8_assigns_68 : decode cX8_assigns 68 = .ok (.iload_n 3, 1) := by decide +kernel
theorem dX8_assigns_69 : decode cX8_assigns 69 = .ok (.bipush 64, 2) := by decide +kernel
theorem dX8_assigns_71 : decode cX8_assigns 71 = .ok (.if_icmp .ge 54, 3) := by decide +kernel
theorem dX8_assigns_74 : decode cX8_assigns 74 = .ok (.aload_n 0, 1) := by decide +kernel
theorem dX8_assigns_75 : decode cX8_assigns 75 = .ok (.iload_n 1, 1) := by decide +kernel
theorem dX8_assigns_76 : decode cX8_assigns 76 = .ok (.iload_n 3, 1) := by decide +kernel
theorem dX8_assigns_77 : decode cX8_assigns 77 = .ok (.invokevirtual 141, 3) := by decide +kernel
theorem dX8_assigns_80 : decode cX8_assigns 80 = .ok (.ifCond .eq 11, 3) := by decide +kernel
theorem dX8_assigns_83 : decode cX8_assigns 83 = .ok (.aload_n 0, 1) := by decide +kernel
theorem dX8_assigns_84 : decode cX8_assigns 84 = .ok (.iload_n 3, 1) := by decide +kernel
theorem dX8_assigns_85 : decode cX8_assigns 85 = .ok (.invokevirtual 160, 3) := by decide +kernel
theorem dX8_assigns_88 : decode cX8_assigns 88 = .ok (.goto 4, 3) := by decide +kernel
theorem dX8_assigns_91 : decode cX8_assigns 91 = .ok (.iconst (-1), 1) := by decide +kernel
theorem dX8_assigns_92 : decode cX8_assigns 92 = .ok (.istore 4, 2) := by decide +kernel
theorem dX8_assigns_94 : decode cX8_assigns 94 = .ok (.iload 4, 2) := by decide +kernel
theorem dX8_assigns_96 : decode cX8_assigns 96 = .ok (.ifCond .ge 6, 3) := by decide +kernel
theorem dX8_assigns_99 : decode cX8_assigns 99 = .ok (.goto 20, 3) := by decide +kernel
theorem dX8_assigns_102 : decode cX8_assigns 102 = .ok (.aload_n 0, 1) := by decide +kernel
theorem dX8_assigns_103 : decode cX8_assigns 103 = .ok (.getfield 16, 3) := by decide +kernel
theorem dX8_assigns_106 : decode cX8_assigns 106 = .ok (.iload 4, 2) := by decide +kernel
theorem dX8_assigns_108 : decode cX8_assigns 108 = .ok (.iconst 4, 1) := by decide +kernel
theorem dX8_assigns_109 : decode cX8_assigns 109 = .ok (.invokestatic 64, 3) := by decide +kernel
theorem dX8_assigns_112 : decode cX8_assigns 112 = .ok (.iload_n 3, 1) := by decide +kernel
theorem dX8_assigns_113 : decode cX8_assigns 113 = .ok (.iconst 1, 1) := by decide +kernel
theorem dX8_assigns_114 : decode cX8_assigns 114 = .ok (.iadd, 1) := by decide +kernel
theorem dX8_assigns_115 : decode cX8_assigns 115 = .ok (.iastore, 1) := by decide +kernel
theorem dX8_assigns_116 : decode cX8_assigns 116 = .ok (.iinc 2 1, 3) := by decide +kernel
theorem dX8_assigns_119 : decode cX8_assigns 119 = .ok (.iinc 3 1, 3) := by decide +kernel
theorem dX8_assigns_122 : decode cX8_assigns 122 = .ok (.goto (-54), 3) := by decide +kernel
theorem dX8_assigns_125 : decode cX8_assigns 125 = .ok (.iload_n 2, 1) := by decide +kernel
theorem dX8_assigns_126 : decode cX8_assigns 126 = .ok (.ireturn, 1) := by decide +kernel
theorem dX8_assign_0 : decode cX8_assign 0 = .ok (.aload_n 0, 1) := by decide +kernel
theorem dX8_assign_1 : decode cX8_assign 1 = .ok (.invokevirtual 86, 3) := by decide +kernel
theorem dX8_assign_4 : decode cX8_assign 4 = .ok (.aload_n 0, 1) := by decide +kernel
theorem dX8_assign_5 : decode cX8_assign 5 = .ok (.aload_n 0, 1) := by decide +kernel
theorem dX8_assign_6 : decode cX8_assign 6 = .ok (.iload_n 1, 1) := by decide +kernel
theorem dX8_assign_7 : decode cX8_assign 7 = .ok (.invokevirtual 163, 3) := by decide +kernel
theorem dX8_assign_10 : decode cX8_assign 10 = .ok (.invokevirtual 92, 3) := by decide +kernel
theorem dX8_assign_13 : decode cX8_assign 13 = .ok (.ireturn, 1) := by decide +kernel
theorem dX8_formationMask_0 : decode cX8_formationMask 0 = .ok (.aload_n 0, 1) := by decide +kernel
theorem dX8_formationMask_1 : decode cX8_formationMask 1 = .ok (.iload_n 1, 1) := by decide +kernel
theorem dX8_formationMask_2 : decode cX8_formationMask 2 = .ok (.invokestatic 145, 3) := by decide +kernel
theorem dX8_formationMask_5 : decode cX8_formationMask 5 = .ok (.ifCond .eq 7, 3) := by decide +kernel
theorem dX8_formationMask_8 : decode cX8_formationMask 8 = .ok (.iconst 0, 1) := by decide +kernel
theorem dX8_formationMask_9 : decode cX8_formationMask 9 = .ok (.goto 4, 3) := by decide +kernel
theorem dX8_formationMask_12 : decode cX8_formationMask 12 = .ok (.iconst 1, 1) := by decide +kernel
theorem dX8_formationMask_13 : decode cX8_formationMask 13 = .ok (.putfield 50, 3) := by decide +kernel
theorem dX8_formationMask_16 : decode cX8_formationMask 16 = .ok (.aload_n 0, 1) := by decide +kernel
theorem dX8_formationMask_17 : decode cX8_formationMask 17 = .ok (.getfield 50, 3) := by decide +kernel
theorem dX8_formationMask_20 : decode cX8_formationMask 20 = .ok (.ifCond .ne 34, 3) := by decide +kernel
theorem dX8_formationMask_23 : decode cX8_formationMask 23 = .ok (.aload_n 0, 1) := by decide +kernel
theorem dX8_formationMask_24 : decode cX8_formationMask 24 = .ok (.getfield 16, 3) := by decide +kernel
theorem dX8_formationMask_27 : decode cX8_formationMask 27 = .ok (.bipush 77, 2) := by decide +kernel
theorem dX8_formationMask_29 : decode cX8_formationMask 29 = .ok (.iload_n 1, 1) := by decide +kernel
theorem dX8_formationMask_30 : decode cX8_formationMask 30 = .ok (.iadd, 1) := by decide +kernel
theorem dX8_formationMask_31 : decode cX8_formationMask 31 = .ok (.iaload, 1) := by decide +kernel
theorem dX8_formationMask_32 : decode cX8_formationMask 32 = .ok (.i2l, 1) := by decide +kernel
theorem dX8_formationMask_33 : decode cX8_formationMask 33 = .ok (.bipush 32, 2) := by decide +kernel
theorem dX8_formationMask_35 : decode cX8_formationMask 35 = .ok (.lshl, 1) := by decide +kernel
theorem dX8_formationMask_36 : decode cX8_formationMask 36 = .ok (.aload_n 0, 1) := by decide +kernel
theorem dX8_formationMask_37 : decode cX8_formationMask 37 = .ok (.getfield 16, 3) := by decide +kernel
theorem dX8_formationMask_40 : decode cX8_formationMask 40 = .ok (.bipush 73, 2) := by decide +kernel
theorem dX8_formationMask_42 : decode cX8_formationMask 42 = .ok (.iload_n 1, 1) := by decide +kernel
theorem dX8_formationMask_43 : decode cX8_formationMask 43 = .ok (.iadd, 1) := by decide +kernel
theorem dX8_formationMask_44 : decode cX8_formationMask 44 = .ok (.iaload, 1) := by decide +kernel
theorem dX8_formationMask_45 : decode cX8_formationMask 45 = .ok (.i2l, 1) := by decide +kernel
theorem dX8_formationMask_46 : decode cX8_formationMask 46 = .ok (.ldc2_w 166, 3) := by decide +kernel
theorem dX8_formationMask_49 : decode cX8_formationMask 49 = .ok (.land, 1) := by decide +kernel
theorem dX8_formationMask_50 : decode cX8_formationMask 50 = .ok (.lor, 1) := by decide +kernel
theorem dX8_formationMask_51 : decode cX8_formationMask 51 = .ok (.goto 4, 3) := by decide +kernel
theorem dX8_formationMask_54 : decode cX8_formationMask 54 = .ok (.lconst 0, 1) := by decide +kernel
theorem dX8_formationMask_55 : decode cX8_formationMask 55 = .ok (.lreturn, 1) := by decide +kernel
theorem dX8_occupiedMask_0 : decode cX8_occupiedMask 0 = .ok (.aload_n 0, 1) := by decide +kernel
theorem dX8_occupiedMask_1 : decode cX8_occupiedMask 1 = .ok (.iconst 0, 1) := by decide +kernel
theorem dX8_occupiedMask_2 : decode cX8_occupiedMask 2 = .ok (.putfield 50, 3) := by decide +kernel
theorem dX8_occupiedMask_5 : decode cX8_occupiedMask 5 = .ok (.lconst 0, 1) := by decide +kernel
theorem dX8_occupiedMask_6 : decode cX8_occupiedMask 6 = .ok (.lstore_n 1, 1) := by decide +kernel
theorem dX8_occupiedMask_7 : decode cX8_occupiedMask 7 = .ok (.iconst 0, 1) := by decide +kernel
theorem dX8_occupiedMask_8 : decode cX8_occupiedMask 8 = .ok (.istore_n 3, 1) := by decide +kernel
theorem dX8_occupiedMask_9 : decode cX8_occupiedMask 9 = .ok (.iload_n 3, 1) := by decide +kernel
theorem dX8_occupiedMask_10 : decode cX8_occupiedMask 10 = .ok (.aload_n 0, 1) := by decide +kernel
theorem dX8_occupiedMask_11 : decode cX8_occupiedMask 11 = .ok (.getfield 16, 3) := by decide +kernel
theorem dX8_occupiedMask_14 : decode cX8_occupiedMask 14 = .ok (.iconst 0, 1) := by decide +kernel
theorem dX8_occupiedMask_15 : decode cX8_occupiedMask 15 = .ok (.iaload, 1) := by decide +kernel
theorem dX8_occupiedMask_16 : decode cX8_occupiedMask 16 = .ok (.if_icmp .ge 24, 3) := by decide +kernel
theorem dX8_occupiedMask_19 : decode cX8_occupiedMask 19 = .ok (.lload_n 1, 1) := by decide +kernel
theorem dX8_occupiedMask_20 : decode cX8_occupiedMask 20 = .ok (.lconst 1, 1) := by decide +kernel
theorem dX8_occupiedMask_21 : decode cX8_occupiedMask 21 = .ok (.aload_n 0, 1) := by decide +kernel
theorem dX8_occupiedMask_22 : decode cX8_occupiedMask 22 = .ok (.getfield 16, 3) := by decide +kernel
theorem dX8_occupiedMask_25 : decode cX8_occupiedMask 25 = .ok (.iload_n 3, 1) := by decide +kernel
theorem dX8_occupiedMask_26 : decode cX8_occupiedMask 26 = .ok (.iconst 0, 1) := by decide +kernel
theorem dX8_occupiedMask_27 : decode cX8_occupiedMask 27 = .ok (.invokestatic 64, 3) := by decide +kernel
theorem dX8_occupiedMask_30 : decode cX8_occupiedMask 30 = .ok (.iaload, 1) := by decide +kernel
theorem dX8_occupiedMask_31 : decode cX8_occupiedMask 31 = .ok (.lshl, 1) := by decide +kernel
theorem dX8_occupiedMask_32 : decode cX8_occupiedMask 32 = .ok (.lor, 1) := by decide +kernel
theorem dX8_occupiedMask_33 : decode cX8_occupiedMask 33 = .ok (.lstore_n 1, 1) := by decide +kernel
theorem dX8_occupiedMask_34 : decode cX8_occupiedMask 34 = .ok (.iinc 3 1, 3) := by decide +kernel
theorem dX8_occupiedMask_37 : decode cX8_occupiedMask 37 = .ok (.goto (-28), 3) := by decide +kernel
theorem dX8_occupiedMask_40 : decode cX8_occupiedMask 40 = .ok (.lload_n 1, 1) := by decide +kernel
theorem dX8_occupiedMask_41 : decode cX8_occupiedMask 41 = .ok (.lreturn, 1) := by decide +kernel
theorem dX8_matches_0 : decode cX8_matches 0 = .ok (.iconst 0, 1) := by decide +kernel
theorem dX8_matches_1 : decode cX8_matches 1 = .ok (.istore_n 2, 1) := by decide +kernel
theorem dX8_matches_2 : decode cX8_matches 2 = .ok (.iconst 0, 1) := by decide +kernel
theorem dX8_matches_3 : decode cX8_matches 3 = .ok (.istore_n 3, 1) := by decide +kernel
theorem dX8_matches_4 : decode cX8_matches 4 = .ok (.iload_n 3, 1) := by decide +kernel
theorem dX8_matches_5 : decode cX8_matches 5 = .ok (.aload_n 0, 1) := by decide +kernel
theorem dX8_matches_6 : decode cX8_matches 6 = .ok (.getfield 16, 3) := by decide +kernel
theorem dX8_matches_9 : decode cX8_matches 9 = .ok (.iconst 0, 1) := by decide +kernel
theorem dX8_matches_10 : decode cX8_matches 10 = .ok (.iaload, 1) := by decide +kernel
theorem dX8_matches_11 : decode cX8_matches 11 = .ok (.if_icmp .ge 43, 3) := by decide +kernel
theorem dX8_matches_14 : decode cX8_matches 14 = .ok (.iload_n 2, 1) := by decide +kernel
theorem dX8_matches_15 : decode cX8_matches 15 = .ok (.aload_n 0, 1) := by decide +kernel
theorem dX8_matches_16 : decode cX8_matches 16 = .ok (.iload_n 3, 1) := by decide +kernel
theorem dX8_matches_17 : decode cX8_matches 17 = .ok (.invokevirtual 104, 3) := by decide +kernel
theorem dX8_matches_20 : decode cX8_matches 20 = .ok (.ifCond .eq 25, 3) := by decide +kernel
theorem dX8_matches_23 : decode cX8_matches 23 = .ok (.aload_n 0, 1) := by decide +kernel
theorem dX8_matches_24 : decode cX8_matches 24 = .ok (.iload_n 1, 1) := by decide +kernel
theorem dX8_matches_25 : decode cX8_matches 25 = .ok (.aload_n 0, 1) := by decide +kernel
theorem dX8_matches_26 : decode cX8_matches 26 = .ok (.getfield 16, 3) := by decide +kernel
theorem dX8_matches_29 : decode cX8_matches 29 = .ok (.iload_n 3, 1) := by decide +kernel
theorem dX8_matches_30 : decode cX8_matches 30 = .ok (.iconst 0, 1) := by decide +kernel
theorem dX8_matches_31 : decode cX8_matches 31 = .ok (.invokestatic 64, 3) := by decide +kernel
theorem dX8_matches_34 : decode cX8_matches 34 = .ok (.iaload, 1) := by decide +kernel
theorem dX8_matches_35 : decode cX8_matches 35 = .ok (.invokevirtual 141, 3) := by decide +kernel
theorem dX8_matches_38 : decode cX8_matches 38 = .ok (.ifCond .eq 7, 3) := by decide +kernel
theorem dX8_matches_41 : decode cX8_matches 41 = .ok (.iconst 1, 1) := by decide +kernel
theorem dX8_matches_42 : decode cX8_matches 42 = .ok (.goto 4, 3) := by decide +kernel
theorem dX8_matches_45 : decode cX8_matches 45 = .ok (.iconst 0, 1) := by decide +kernel
theorem dX8_matches_46 : decode cX8_matches 46 = .ok (.iadd, 1) := by decide +kernel
theorem dX8_matches_47 : decode cX8_matches 47 = .ok (.istore_n 2, 1) := by decide +kernel
theorem dX8_matches_48 : decode cX8_matches 48 = .ok (.iinc 3 1, 3) := by decide +kernel
theorem dX8_matches_51 : decode cX8_matches 51 = .ok (.goto (-47), 3) := by decide +kernel
theorem dX8_matches_54 : decode cX8_matches 54 = .ok (.iload_n 2, 1) := by decide +kernel
theorem dX8_matches_55 : decode cX8_matches 55 = .ok (.ireturn, 1) := by decide +kernel
theorem dX8_matchCount_0 : decode cX8_matchCount 0 = .ok (.aload_n 0, 1) := by decide +kernel
theorem dX8_matchCount_1 : decode cX8_matchCount 1 = .ok (.iload_n 1, 1) := by decide +kernel
theorem dX8_matchCount_2 : decode cX8_matchCount 2 = .ok (.invokestatic 145, 3) := by decide +kernel
theorem dX8_matchCount_5 : decode cX8_matchCount 5 = .ok (.ifCond .eq 7, 3) := by decide +kernel
theorem dX8_matchCount_8 : decode cX8_matchCount 8 = .ok (.iconst 0, 1) := by decide +kernel
theorem dX8_matchCount_9 : decode cX8_matchCount 9 = .ok (.goto 4, 3) := by decide +kernel
theorem dX8_matchCount_12 : decode cX8_matchCount 12 = .ok (.iconst 1, 1) := by decide +kernel
theorem dX8_matchCount_13 : decode cX8_matchCount 13 = .ok (.putfield 50, 3) := by decide +kernel
theorem dX8_matchCount_16 : decode cX8_matchCount 16 = .ok (.aload_n 0, 1) := by decide +kernel
theorem dX8_matchCount_17 : decode cX8_matchCount 17 = .ok (.getfield 50, 3) := by decide +kernel
theorem dX8_matchCount_20 : decode cX8_matchCount 20 = .ok (.ifCond .ne 11, 3) := by decide +kernel
theorem dX8_matchCount_23 : decode cX8_matchCount 23 = .ok (.aload_n 0, 1) := by decide +kernel
theorem dX8_matchCount_24 : decode cX8_matchCount 24 = .ok (.iload_n 1, 1) := by decide +kernel
theorem dX8_matchCount_25 : decode cX8_matchCount 25 = .ok (.invokevirtual 168, 3) := by decide +kernel
theorem dX8_matchCount_28 : decode cX8_matchCount 28 = .ok (.goto 4, 3) := by decide +kernel
theorem dX8_matchCount_31 : decode cX8_matchCount 31 = .ok (.iconst 0, 1) := by decide +kernel
theorem dX8_matchCount_32 : decode cX8_matchCount 32 = .ok (.ireturn, 1) := by decide +kernel
theorem dX8_matchCountByScan_0 : decode cX8_matchCountByScan 0 = .ok (.aload_n 0, 1) := by decide +kernel
theorem dX8_matchCountByScan_1 : decode cX8_matchCountByScan 1 = .ok (.iload_n 1, 1) := by decide +kernel
theorem dX8_matchCountByScan_2 : decode cX8_matchCountByScan 2 = .ok (.invokevirtual 171, 3) := by decide +kernel
theorem dX8_matchCountByScan_5 : decode cX8_matchCountByScan 5 = .ok (.ireturn, 1) := by decide +kernel
theorem dX8_coverage_0 : decode cX8_coverage 0 = .ok (.aload_n 0, 1) := by decide +kernel
theorem dX8_coverage_1 : decode cX8_coverage 1 = .ok (.iload_n 1, 1) := by decide +kernel
theorem dX8_coverage_2 : decode cX8_coverage 2 = .ok (.invokestatic 145, 3) := by decide +kernel
theorem dX8_coverage_5 : decode cX8_coverage 5 = .ok (.ifCond .ne 7, 3) := by decide +kernel
theorem dX8_coverage_8 : decode cX8_coverage 8 = .ok (.iconst 1, 1) := by decide +kernel
theorem dX8_coverage_9 : decode cX8_coverage 9 = .ok (.goto 16, 3) := by decide +kernel
theorem dX8_coverage_12 : decode cX8_coverage 12 = .ok (.aload_n 0, 1) := by decide +kernel
theorem dX8_coverage_13 : decode cX8_coverage 13 = .ok (.iload_n 1, 1) := by decide +kernel
theorem dX8_coverage_14 : decode cX8_coverage 14 = .ok (.invokevirtual 148, 3) := by decide +kernel
theorem dX8_coverage_17 : decode cX8_coverage 17 = .ok (.ifCond .ne 7, 3) := by decide +kernel
theorem dX8_coverage_20 : decode cX8_coverage 20 = .ok (.iconst 2, 1) := by decide +kernel
theorem dX8_coverage_21 : decode cX8_coverage 21 = .ok (.goto 4, 3) := by decide +kernel
theorem dX8_coverage_24 : decode cX8_coverage 24 = .ok (.iconst 0, 1) := by decide +kernel
theorem dX8_coverage_25 : decode cX8_coverage 25 = .ok (.putfield 50, 3) := by decide +kernel
theorem dX8_coverage_28 : decode cX8_coverage 28 = .ok (.aload_n 0, 1) := by decide +kernel
theorem dX8_coverage_29 : decode cX8_coverage 29 = .ok (.getfield 50, 3) := by decide +kernel
theorem dX8_coverage_32 : decode cX8_coverage 32 = .ok (.ifCond .ne 19, 3) := by decide +kernel
theorem dX8_coverage_35 : decode cX8_coverage 35 = .ok (.aload_n 0, 1) := by decide +kernel
theorem dX8_coverage_36 : decode cX8_coverage 36 = .ok (.iload_n 1, 1) := by decide +kernel
theorem dX8_coverage_37 : decode cX8_coverage 37 = .ok (.invokevirtual 168, 3) := by decide +kernel
theorem dX8_coverage_40 : decode cX8_coverage 40 = .ok (.i2f, 1) := by decide +kernel
theorem dX8_coverage_41 : decode cX8_coverage 41 = .ok (.aload_n 0, 1) := by decide +kernel
theorem dX8_coverage_42 : decode cX8_coverage 42 = .ok (.iload_n 1, 1) := by decide +kernel
theorem dX8_coverage_43 : decode cX8_coverage 43 = .ok (.invokevirtual 148, 3) := by decide +kernel
theorem dX8_coverage_46 : decode cX8_coverage 46 = .ok (.i2f, 1) := by decide +kernel
theorem dX8_coverage_47 : decode cX8_coverage 47 = .ok (.fdiv, 1) := by decide +kernel
theorem dX8_coverage_48 : decode cX8_coverage 48 = .ok (.goto 4, 3) := by decide +kernel
theorem dX8_coverage_51 : decode cX8_coverage 51 = .ok (.fconst 0, 1) := by decide +kernel
theorem dX8_coverage_52 : decode cX8_coverage 52 = .ok (.freturn, 1) := by decide +kernel
theorem dX8_wants_0 : decode cX8_wants 0 = .ok (.aload_n 0, 1) := by decide +kernel
theorem dX8_wants_1 : decode cX8_wants 1 = .ok (.iload_n 1, 1) := by decide +kernel
theorem dX8_wants_2 : decode cX8_wants 2 = .ok (.invokevirtual 104, 3) := by decide +kernel
theorem dX8_wants_5 : decode cX8_wants 5 = .ok (.ifCond .eq 33, 3) := by decide +kernel
theorem dX8_wants_8 : decode cX8_wants 8 = .ok (.aload_n 0, 1) := by decide +kernel
theorem dX8_wants_9 : decode cX8_wants 9 = .ok (.iload_n 1, 1) := by decide +kernel
theorem dX8_wants_10 : decode cX8_wants 10 = .ok (.invokevirtual 132, 3) := by decide +kernel
theorem dX8_wants_13 : decode cX8_wants 13 = .ok (.ifCond .lt 25, 3) := by decide +kernel
theorem dX8_wants_16 : decode cX8_wants 16 = .ok (.aload_n 0, 1) := by decide +kernel
theorem dX8_wants_17 : decode cX8_wants 17 = .ok (.iload_n 1, 1) := by decide +kernel
theorem dX8_wants_18 : decode cX8_wants 18 = .ok (.invokevirtual 132, 3) := by decide +kernel
theorem dX8_wants_21 : decode cX8_wants 21 = .ok (.aload_n 0, 1) := by decide +kernel
theorem dX8_wants_22 : decode cX8_wants 22 = .ok (.getfield 16, 3) := by decide +kernel
theorem dX8_wants_25 : decode cX8_wants 25 = .ok (.iload_n 1, 1) := by decide +kernel
theorem dX8_wants_26 : decode cX8_wants 26 = .ok (.iconst 0, 1) := by decide +kernel
theorem dX8_wants_27 : decode cX8_wants 27 = .ok (.invokestatic 64, 3) := by decide +kernel
theorem dX8_wants_30 : decode cX8_wants 30 = .ok (.iaload, 1) := by decide +kernel
theorem dX8_wants_31 : decode cX8_wants 31 = .ok (.if_icmp .eq 7, 3) := by decide +kernel
theorem dX8_wants_34 : decode cX8_wants 34 = .ok (.iconst 1, 1) := by decide +kernel
theorem dX8_wants_35 : decode cX8_wants 35 = .ok (.goto 4, 3) := by decide +kernel
theorem dX8_wants_38 : decode cX8_wants 38 = .ok (.iconst 0, 1) := by decide +kernel
theorem dX8_wants_39 : decode cX8_wants 39 = .ok (.ireturn, 1) := by decide +kernel
theorem dX8_toRow_0 : decode cX8_toRow 0 = .ok (.iload_n 1, 1) := by decide +kernel
theorem dX8_toRow_1 : decode cX8_toRow 1 = .ok (.bipush 8, 2) := by decide +kernel
theorem dX8_toRow_3 : decode cX8_toRow 3 = .ok (.idiv, 1) := by decide +kernel
theorem dX8_toRow_4 : decode cX8_toRow 4 = .ok (.iload_n 0, 1) := by decide +kernel
theorem dX8_toRow_5 : decode cX8_toRow 5 = .ok (.bipush 8, 2) := by decide +kernel
theorem dX8_toRow_7 : decode cX8_toRow 7 = .ok (.idiv, 1) := by decide +kernel
theorem dX8_toRow_8 : decode cX8_toRow 8 = .ok (.if_icmp .le 10, 3) := by decide +kernel
theorem dX8_toRow_11 : decode cX8_toRow 11 = .ok (.iload_n 0, 1) := by decide +kernel
theorem dX8_toRow_12 : decode cX8_toRow 12 = .ok (.bipush 8, 2) := by decide +kernel
theorem dX8_toRow_14 : decode cX8_toRow 14 = .ok (.iadd, 1) := by decide +kernel
theorem dX8_toRow_15 : decode cX8_toRow 15 = .ok (.goto 7, 3) := by decide +kernel
theorem dX8_toRow_18 : decode cX8_toRow 18 = .ok (.iload_n 0, 1) := by decide +kernel
theorem dX8_toRow_19 : decode cX8_toRow 19 = .ok (.bipush 8, 2) := by decide +kernel
theorem dX8_toRow_21 : decode cX8_toRow 21 = .ok (.isub, 1) := by decide +kernel
theorem dX8_toRow_22 : decode cX8_toRow 22 = .ok (.ireturn, 1) := by decide +kernel
theorem dX8_toColumn_0 : decode cX8_toColumn 0 = .ok (.iload_n 1, 1) := by decide +kernel
theorem dX8_toColumn_1 : decode cX8_toColumn 1 = .ok (.bipush 8, 2) := by decide +kernel
theorem dX8_toColumn_3 : decode cX8_toColumn 3 = .ok (.irem, 1) := by decide +kernel
theorem dX8_toColumn_4 : decode cX8_toColumn 4 = .ok (.iload_n 0, 1) := by decide +kernel
theorem dX8_toColumn_5 : decode cX8_toColumn 5 = .ok (.bipush 8, 2) := by decide +kernel
theorem dX8_toColumn_7 : decode cX8_toColumn 7 = .ok (.irem, 1) := by decide +kernel
theorem dX8_toColumn_8 : decode cX8_toColumn 8 = .ok (.if_icmp .le 9, 3) := by decide +kernel
theorem dX8_toColumn_11 : decode cX8_toColumn 11 = .ok (.iload_n 0, 1) := by decide +kernel
theorem dX8_toColumn_12 : decode cX8_toColumn 12 = .ok (.iconst 1, 1) := by decide +kernel
theorem dX8_toColumn_13 : decode cX8_toColumn 13 = .ok (.iadd, 1) := by decide +kernel
theorem dX8_toColumn_14 : decode cX8_toColumn 14 = .ok (.goto 6, 3) := by decide +kernel
theorem dX8_toColumn_17 : decode cX8_toColumn 17 = .ok (.iload_n 0, 1) := by decide +kernel
theorem dX8_toColumn_18 : decode cX8_toColumn 18 = .ok (.iconst 1, 1) := by decide +kernel
theorem dX8_toColumn_19 : decode cX8_toColumn 19 = .ok (.isub, 1) := by decide +kernel
theorem dX8_toColumn_20 : decode cX8_toColumn 20 = .ok (.ireturn, 1) := by decide +kernel
theorem dX8_wish_0 : decode cX8_wish 0 = .ok (.aload_n 0, 1) := by decide +kernel
theorem dX8_wish_1 : decode cX8_wish 1 = .ok (.getfield 16, 3) := by decide +kernel
theorem dX8_wish_4 : decode cX8_wish 4 = .ok (.iload_n 1, 1) := by decide +kernel
theorem dX8_wish_5 : decode cX8_wish 5 = .ok (.iconst 0, 1) := by decide +kernel
theorem dX8_wish_6 : decode cX8_wish 6 = .ok (.invokestatic 64, 3) := by decide +kernel
theorem dX8_wish_9 : decode cX8_wish 9 = .ok (.iaload, 1) := by decide +kernel
theorem dX8_wish_10 : decode cX8_wish 10 = .ok (.istore_n 2, 1) := by decide +kernel
theorem dX8_wish_11 : decode cX8_wish 11 = .ok (.aload_n 0, 1) := by decide +kernel
theorem dX8_wish_12 : decode cX8_wish 12 = .ok (.iload_n 1, 1) := by decide +kernel
theorem dX8_wish_13 : decode cX8_wish 13 = .ok (.invokevirtual 132, 3) := by decide +kernel
theorem dX8_wish_16 : decode cX8_wish 16 = .ok (.istore_n 3, 1) := by decide +kernel
theorem dX8_wish_17 : decode cX8_wish 17 = .ok (.iload_n 2, 1) := by decide +kernel
theorem dX8_wish_18 : decode cX8_wish 18 = .ok (.bipush 8, 2) := by decide +kernel
theorem dX8_wish_20 : decode cX8_wish 20 = .ok (.idiv, 1) := by decide +kernel
theorem dX8_wish_21 : decode cX8_wish 21 = .ok (.iload_n 3, 1) := by decide +kernel
theorem dX8_wish_22 : decode cX8_wish 22 = .ok (.bipush 8, 2) := by decide +kernel
theorem dX8_wish_24 : decode cX8_wish 24 = .ok (.idiv, 1) := by decide +kernel
theorem dX8_wish_25 : decode cX8_wish 25 = .ok (.if_icmp .eq 11, 3) := by decide +kernel
theorem dX8_wish_28 : decode cX8_wish 28 = .ok (.iload_n 2, 1) := by decide +kernel
theorem dX8_wish_29 : decode cX8_wish 29 = .ok (.iload_n 3, 1) := by decide +kernel
theorem dX8_wish_30 : decode cX8_wish 30 = .ok (.invokestatic 174, 3) := by decide +kernel
theorem dX8_wish_33 : decode cX8_wish 33 = .ok (.goto 8, 3) := by decide +kernel
theorem dX8_wish_36 : decode cX8_wish 36 = .ok (.iload_n 2, 1) := by decide +kernel
theorem dX8_wish_37 : decode cX8_wish 37 = .ok (.iload_n 3, 1) := by decide +kernel
theorem dX8_wish_38 : decode cX8_wish 38 = .ok (.invokestatic 177, 3) := by decide +kernel
theorem dX8_wish_41 : decode cX8_wish 41 = .ok (.ireturn, 1) := by decide +kernel
theorem dX8_cues_0 : decode cX8_cues 0 = .ok (.iconst 0, 1) := by decide +kernel
theorem dX8_cues_1 : decode cX8_cues 1 = .ok (.istore_n 1, 1) := by decide +kernel
theorem dX8_cues_2 : decode cX8_cues 2 = .ok (.iconst 0, 1) := by decide +kernel
theorem dX8_cues_3 : decode cX8_cues 3 = .ok (.istore_n 2, 1) := by decide +kernel
theorem dX8_cues_4 : decode cX8_cues 4 = .ok (.iload_n 2, 1) := by decide +kernel
theorem dX8_cues_5 : decode cX8_cues 5 = .ok (.aload_n 0, 1) := by decide +kernel
theorem dX8_cues_6 : decode cX8_cues 6 = .ok (.getfield 16, 3) := by decide +kernel
theorem dX8_cues_9 : decode cX8_cues 9 = .ok (.bipush 8, 2) := by decide +kernel
theorem dX8_cues_11 : decode cX8_cues 11 = .ok (.iaload, 1) := by decide +kernel
theorem dX8_cues_12 : decode cX8_cues 12 = .ok (.if_icmp .ge 104, 3) := by decide +kernel
theorem dX8_cues_15 : decode cX8_cues 15 = .ok (.bipush 81, 2) := by decide +kernel
theorem dX8_cues_17 : decode cX8_cues 17 = .ok (.iconst 3, 1) := by decide +kernel
theorem dX8_cues_18 : decode cX8_cues 18 = .ok (.iload_n 2, 1) := by decide +kernel
theorem dX8_cues_19 : decode cX8_cues 19 = .ok (.imul, 1) := by decide +kernel
theorem dX8_cues_20 : decode cX8_cues 20 = .ok (.iadd, 1) := by decide +kernel
theorem dX8_cues_21 : decode cX8_cues 21 = .ok (.istore_n 3, 1) := by decide +kernel
theorem dX8_cues_22 : decode cX8_cues 22 = .ok (.bipush 81, 2) := by decide +kernel
theorem dX8_cues_24 : decode cX8_cues 24 = .ok (.iconst 3, 1) := by decide +kernel
theorem dX8_cues_25 : decode cX8_cues 25 = .ok (.iload_n 1, 1) := by decide +kernel
theorem dX8_cues_26 : decode cX8_cues 26 = .ok (.imul, 1) := by decide +kernel
theorem dX8_cues_27 : decode cX8_cues 27 = .ok (.iadd, 1) := by decide +kernel
theorem dX8_cues_28 : decode cX8_cues 28 = .ok (.istore 4, 2) := by decide +kernel
theorem dX8_cues_30 : decode cX8_cues 30 = .ok (.aload_n 0, 1) := by decide +kernel
theorem dX8_cues_31 : decode cX8_cues 31 = .ok (.getfield 16, 3) := by decide +kernel
theorem dX8_cues_34 : decode cX8_cues 34 = .ok (.iload_n 3, 1) := by decide +kernel
theorem dX8_cues_35 : decode cX8_cues 35 = .ok (.iconst 1, 1) := by decide +kernel
theorem dX8_cues_36 : decode cX8_cues 36 = .ok (.iadd, 1) := by decide +kernel
theorem dX8_cues_37 : decode cX8_cues 37 = .ok (.iaload, 1) := by decide +kernel
theorem dX8_cues_38 : decode cX8_cues 38 = .ok (.aload_n 0, 1) := by decide +kernel
theorem dX8_cues_39 : decode cX8_cues 39 = .ok (.getfield 16, 3) := by decide +kernel
theorem dX8_cues_42 : decode cX8_cues 42 = .ok (.iconst 3, 1) := by decide +kernel
theorem dX8_cues_43 : decode cX8_cues 43 = .ok (.iaload, 1) := by decide +kernel
theorem dX8_cues_44 : decode cX8_cues 44 = .ok (.if_icmp .ne 29, 3) := by decide +kernel
theorem dX8_cues_47 : decode cX8_cues 47 = .ok (.aload_n 0, 1) := by decide +kernel
theorem dX8_cues_48 : decode cX8_cues 48 = .ok (.getfield 16, 3) := by decide +kernel
theorem dX8_cues_51 : decode cX8_cues 51 = .ok (.aload_n 0, 1) := by decide +kernel
theorem dX8_cues_52 : decode cX8_cues 52 = .ok (.getfield 16, 3) := by decide +kernel
theorem dX8_cues_55 : decode cX8_cues 55 = .ok (.iload_n 3, 1) := by decide +kernel
theorem dX8_cues_56 : decode cX8_cues 56 = .ok (.iaload, 1) := by decide +kernel
theorem dX8_cues_57 : decode cX8_cues 57 = .ok (.iconst 3, 1) := by decide +kernel
theorem dX8_cues_58 : decode cX8_cues 58 = .ok (.invokestatic 64, 3) := by decide +kernel
theorem dX8_cues_61 : decode cX8_cues 61 = .ok (.aload_n 0, 1) := by decide +kernel
theorem dX8_cues_62 : decode cX8_cues 62 = .ok (.getfield 16, 3) := by decide +kernel
theorem dX8_cues_65 : decode cX8_cues 65 = .ok (.iload_n 3, 1) := by decide +kernel
theorem dX8_cues_66 : decode cX8_cues 66 = .ok (.iconst 2, 1) := by decide +kernel
theorem dX8_cues_67 : decode cX8_cues 67 = .ok (.iadd, 1) := by decide +kernel
theorem dX8_cues_68 : decode cX8_cues 68 = .ok (.iaload, 1) := by decide +kernel
theorem dX8_cues_69 : decode cX8_cues 69 = .ok (.iastore, 1) := by decide +kernel
theorem dX8_cues_70 : decode cX8_cues 70 = .ok (.goto 40, 3) := by decide +kernel
theorem dX8_cues_73 : decode cX8_cues 73 = .ok (.iconst 0, 1) := by decide +kernel
theorem dX8_cues_74 : decode cX8_cues 74 = .ok (.istore 5, 2) := by decide +kernel
theorem dX8_cues_76 : decode cX8_cues 76 = .ok (.iload 5, 2) := by decide +kernel
theorem dX8_cues_78 : decode cX8_cues 78 = .ok (.iconst 3, 1) := by decide +kernel
theorem dX8_cues_79 : decode cX8_cues 79 = .ok (.if_icmp .ge 28, 3) := by decide +kernel
theorem dX8_cues_82 : decode cX8_cues 82 = .ok (.aload_n 0, 1) := by decide +kernel
theorem dX8_cues_83 : decode cX8_cues 83 = .ok (.getfield 16, 3) := by decide +kernel
theorem dX8_cues_86 : decode cX8_cues 86 = .ok (.iload 4, 2) := by decide +kernel
theorem dX8_cues_88 : decode cX8_cues 88 = .ok (.iload 5, 2) := by decide +kernel
theorem dX8_cues_90 : decode cX8_cues 90 = .ok (.iadd, 1) := by decide +kernel
theorem dX8_cues_91 : decode cX8_cues 91 = .ok (.aload_n 0, 1) := by decide +kernel
theorem dX8_cues_92 : decode cX8_cues 92 = .ok (.getfield 16, 3) := by decide +kernel
theorem dX8_cues_95 : decode cX8_cues 95 = .ok (.iload_n 3, 1) := by decide +kernel
theorem dX8_cues_96 : decode cX8_cues 96 = .ok (.iload 5, 2) := by decide +kernel
theorem dX8_cues_98 : decode cX8_cues 98 = .ok (.iadd, 1) := by decide +kernel
theorem dX8_cues_99 : decode cX8_cues 99 = .ok (.iaload, 1) := by decide +kernel
theorem dX8_cues_100 : decode cX8_cues 100 = .ok (.iastore, 1) := by decide +kernel
theorem dX8_cues_101 : decode cX8_cues 101 = .ok (.iinc 5 1, 3) := by decide +kernel
theorem dX8_cues_104 : decode cX8_cues 104 = .ok (.goto (-28), 3) := by decide +kernel
theorem dX8_cues_107 : decode cX8_cues 107 = .ok (.iinc 1 1, 3) := by decide +kernel
theorem dX8_cues_110 : decode cX8_cues 110 = .ok (.iinc 2 1, 3) := by decide +kernel
theorem dX8_cues_113 : decode cX8_cues 113 = .ok (.goto (-109), 3) := by decide +kernel
theorem dX8_cues_116 : decode cX8_cues 116 = .ok (.aload_n 0, 1) := by decide +kernel
theorem dX8_cues_117 : decode cX8_cues 117 = .ok (.getfield 16, 3) := by decide +kernel
theorem dX8_cues_120 : decode cX8_cues 120 = .ok (.bipush 8, 2) := by decide +kernel
theorem dX8_cues_122 : decode cX8_cues 122 = .ok (.iload_n 1, 1) := by decide +kernel
theorem dX8_cues_123 : decode cX8_cues 123 = .ok (.iastore, 1) := by decide +kernel
theorem dX8_cues_124 : decode cX8_cues 124 = .ok (.bipush 81, 2) := by decide +kernel
theorem dX8_cues_126 : decode cX8_cues 126 = .ok (.iconst 3, 1) := by decide +kernel
theorem dX8_cues_127 : decode cX8_cues 127 = .ok (.iload_n 1, 1) := by decide +kernel
theorem dX8_cues_128 : decode cX8_cues 128 = .ok (.imul, 1) := by decide +kernel
theorem dX8_cues_129 : decode cX8_cues 129 = .ok (.iadd, 1) := by decide +kernel
theorem dX8_cues_130 : decode cX8_cues 130 = .ok (.istore_n 2, 1) := by decide +kernel
theorem dX8_cues_131 : decode cX8_cues 131 = .ok (.iload_n 2, 1) := by decide +kernel
theorem dX8_cues_132 : decode cX8_cues 132 = .ok (.bipush 117, 2) := by decide +kernel
theorem dX8_cues_134 : decode cX8_cues 134 = .ok (.if_icmp .ge 16, 3) := by decide +kernel
theorem dX8_cues_137 : decode cX8_cues 137 = .ok (.aload_n 0, 1) := by decide +kernel
theorem dX8_cues_138 : decode cX8_cues 138 = .ok (.getfield 16, 3) := by decide +kernel
theorem dX8_cues_141 : decode cX8_cues 141 = .ok (.iload_n 2, 1) := by decide +kernel
theorem dX8_cues_142 : decode cX8_cues 142 = .ok (.iconst 0, 1) := by decide +kernel
theorem dX8_cues_143 : decode cX8_cues 143 = .ok (.iastore, 1) := by decide +kernel
theorem dX8_cues_144 : decode cX8_cues 144 = .ok (.iinc 2 1, 3) := by decide +kernel
theorem dX8_cues_147 : decode cX8_cues 147 = .ok (.goto (-16), 3) := by decide +kernel
theorem dX8_cues_150 : decode cX8_cues 150 = .ok (.return_, 1) := by decide +kernel
theorem dX8_moves_0 : decode cX8_moves 0 = .ok (.aload_n 0, 1) := by decide +kernel
theorem dX8_moves_1 : decode cX8_moves 1 = .ok (.getfield 16, 3) := by decide +kernel
theorem dX8_moves_4 : decode cX8_moves 4 = .ok (.iload_n 1, 1) := by decide +kernel
theorem dX8_moves_5 : decode cX8_moves 5 = .ok (.iconst 0, 1) := by decide +kernel
theorem dX8_moves_6 : decode cX8_moves 6 = .ok (.invokestatic 64, 3) := by decide +kernel
theorem dX8_moves_9 : decode cX8_moves 9 = .ok (.iaload, 1) := by decide +kernel
theorem dX8_moves_10 : decode cX8_moves 10 = .ok (.istore_n 2, 1) := by decide +kernel
theorem dX8_moves_11 : decode cX8_moves 11 = .ok (.aload_n 0, 1) := by decide +kernel
theorem dX8_moves_12 : decode cX8_moves 12 = .ok (.iload_n 1, 1) := by decide +kernel
theorem dX8_moves_13 : decode cX8_moves 13 = .ok (.invokevirtual 132, 3) := by decide +kernel
theorem dX8_moves_16 : decode cX8_moves 16 = .ok (.istore_n 3, 1) := by decide +kernel
theorem dX8_moves_17 : decode cX8_moves 17 = .ok (.aload_n 0, 1) := by decide +kernel
theorem dX8_moves_18 : decode cX8_moves 18 = .ok (.iload_n 1, 1) := by decide +kernel
theorem dX8_moves_19 : decode cX8_moves 19 = .ok (.invokevirtual 180, 3) := by decide +kernel
theorem dX8_moves_22 : decode cX8_moves 22 = .ok (.istore 4, 2) := by decide +kernel
theorem dX8_moves_24 : decode cX8_moves 24 = .ok (.aload_n 0, 1) := by decide +kernel
theorem dX8_moves_25 : decode cX8_moves 25 = .ok (.iload 4, 2) := by decide +kernel
theorem dX8_moves_27 : decode cX8_moves 27 = .ok (.invokevirtual 79, 3) := by decide +kernel
theorem dX8_moves_30 : decode cX8_moves 30 = .ok (.ifCond .lt 32, 3) := by decide +kernel
theorem dX8_moves_33 : decode cX8_moves 33 = .ok (.iload_n 2, 1) := by decide +kernel
theorem dX8_moves_34 : decode cX8_moves 34 = .ok (.bipush 8, 2) := by decide +kernel
theorem dX8_moves_36 : decode cX8_moves 36 = .ok (.idiv, 1) := by decide +kernel
theorem dX8_moves_37 : decode cX8_moves 37 = .ok (.iload_n 3, 1) := by decide +kernel
theorem dX8_moves_38 : decode cX8_moves 38 = .ok (.bipush 8, 2) := by decide +kernel
theorem dX8_moves_40 : decode cX8_moves 40 = .ok (.idiv, 1) := by decide +kernel
theorem dX8_moves_41 : decode cX8_moves 41 = .ok (.if_icmp .eq 21, 3) := by decide +kernel
theorem dX8_moves_44 : decode cX8_moves 44 = .ok (.iload_n 2, 1) := by decide +kernel
theorem dX8_moves_45 : decode cX8_moves 45 = .ok (.bipush 8, 2) := by decide +kernel
theorem dX8_moves_47 : decode cX8_moves 47 = .ok (.irem, 1) := by decide +kernel
theorem dX8_moves_48 : decode cX8_moves 48 = .ok (.iload_n 3, 1) := by decide +kernel
theorem dX8_moves_49 : decode cX8_moves 49 = .ok (.bipush 8, 2) := by decide +kernel
theorem dX8_moves_51 : decode cX8_moves 51 = .ok (.irem, 1) := by decide +kernel
theorem dX8_moves_52 : decode cX8_moves 52 = .ok (.if_icmp .eq 10, 3) := by decide +kernel
theorem dX8_moves_55 : decode cX8_moves 55 = .ok (.iload_n 2, 1) := by decide +kernel
theorem dX8_moves_56 : decode cX8_moves 56 = .ok (.iload_n 3, 1) := by decide +kernel
theorem dX8_moves_57 : decode cX8_moves 57 = .ok (.invokestatic 177, 3) := by decide +kernel
theorem dX8_moves_60 : decode cX8_moves 60 = .ok (.istore 4, 2) := by decide +kernel
theorem dX8_moves_62 : decode cX8_moves 62 = .ok (.aload_n 0, 1) := by decide +kernel
theorem dX8_moves_63 : decode cX8_moves 63 = .ok (.iload 4, 2) := by decide +kernel
theorem dX8_moves_65 : decode cX8_moves 65 = .ok (.invokevirtual 79, 3) := by decide +kernel
theorem dX8_moves_68 : decode cX8_moves 68 = .ok (.ifCond .lt 15, 3) := by decide +kernel
theorem dX8_moves_71 : decode cX8_moves 71 = .ok (.aload_n 0, 1) := by decide +kernel
theorem dX8_moves_72 : decode cX8_moves 72 = .ok (.getfield 16, 3) := by decide +kernel
theorem dX8_moves_75 : decode cX8_moves 75 = .ok (.iconst 5, 1) := by decide +kernel
theorem dX8_moves_76 : decode cX8_moves 76 = .ok (.dup2, 1) := by decide +kernel
theorem dX8_moves_77 : decode cX8_moves 77 = .ok (.iaload, 1) := by decide +kernel
theorem dX8_moves_78 : decode cX8_moves 78 = .ok (.iconst 1, 1) := by decide +kernel
theorem dX8_moves_79 : decode cX8_moves 79 = .ok (.iadd, 1) := by decide +kernel
theorem dX8_moves_80 : decode cX8_moves 80 = .ok (.iastore, 1) := by decide +kernel
theorem dX8_moves_81 : decode cX8_moves 81 = .ok (.iconst 0, 1) := by decide +kernel
theorem dX8_moves_82 : decode cX8_moves 82 = .ok (.ireturn, 1) := by decide +kernel
theorem dX8_moves_83 : decode cX8_moves 83 = .ok (.aload_n 0, 1) := by decide +kernel
theorem dX8_moves_84 : decode cX8_moves 84 = .ok (.getfield 16, 3) := by decide +kernel
theorem dX8_moves_87 : decode cX8_moves 87 = .ok (.iload_n 1, 1) := by decide +kernel
theorem dX8_moves_88 : decode cX8_moves 88 = .ok (.iconst 0, 1) := by decide +kernel
theorem dX8_moves_89 : decode cX8_moves 89 = .ok (.invokestatic 64, 3) := by decide +kernel
theorem dX8_moves_92 : decode cX8_moves 92 = .ok (.iload 4, 2) := by decide +kernel
theorem dX8_moves_94 : decode cX8_moves 94 = .ok (.iastore, 1) := by decide +kernel
theorem dX8_moves_95 : decode cX8_moves 95 = .ok (.iconst 1, 1) := by decide +kernel
theorem dX8_moves_96 : decode cX8_moves 96 = .ok (.ireturn, 1) := by decide +kernel
theorem dX8_lowers_0 : decode cX8_lowers 0 = .ok (.aload_n 0, 1) := by decide +kernel
theorem dX8_lowers_1 : decode cX8_lowers 1 = .ok (.getfield 16, 3) := by decide +kernel
theorem dX8_lowers_4 : decode cX8_lowers 4 = .ok (.iload_n 1, 1) := by decide +kernel
theorem dX8_lowers_5 : decode cX8_lowers 5 = .ok (.iconst 2, 1) := by decide +kernel
theorem dX8_lowers_6 : decode cX8_lowers 6 = .ok (.invokestatic 64, 3) := by decide +kernel
theorem dX8_lowers_9 : decode cX8_lowers 9 = .ok (.iaload, 1) := by decide +kernel
theorem dX8_lowers_10 : decode cX8_lowers 10 = .ok (.iconst 1, 1) := by decide +kernel
theorem dX8_lowers_11 : decode cX8_lowers 11 = .ok (.isub, 1) := by decide +kernel
theorem dX8_lowers_12 : decode cX8_lowers 12 = .ok (.aload_n 0, 1) := by decide +kernel
theorem dX8_lowers_13 : decode cX8_lowers 13 = .ok (.getfield 32, 3) := by decide +kernel
theorem dX8_lowers_16 : decode cX8_lowers 16 = .ok (.iload_n 1, 1) := by decide +kernel
theorem dX8_lowers_17 : decode cX8_lowers 17 = .ok (.iaload, 1) := by decide +kernel
theorem dX8_lowers_18 : decode cX8_lowers 18 = .ok (.isub, 1) := by decide +kernel
theorem dX8_lowers_19 : decode cX8_lowers 19 = .ok (.istore_n 2, 1) := by decide +kernel
theorem dX8_lowers_20 : decode cX8_lowers 20 = .ok (.aload_n 0, 1) := by decide +kernel
theorem dX8_lowers_21 : decode cX8_lowers 21 = .ok (.getfield 16, 3) := by decide +kernel
theorem dX8_lowers_24 : decode cX8_lowers 24 = .ok (.iload_n 1, 1) := by decide +kernel
theorem dX8_lowers_25 : decode cX8_lowers 25 = .ok (.iconst 2, 1) := by decide +kernel
theorem dX8_lowers_26 : decode cX8_lowers 26 = .ok (.invokestatic 64, 3) := by decide +kernel
theorem dX8_lowers_29 : decode cX8_lowers 29 = .ok (.iload_n 2, 1) := by decide +kernel
theorem dX8_lowers_30 : decode cX8_lowers 30 = .ok (.ifCond .ge 7, 3) := by decide +kernel
theorem dX8_lowers_33 : decode cX8_lowers 33 = .ok (.iconst 0, 1) := by decide +kernel
theorem dX8_lowers_34 : decode cX8_lowers 34 = .ok (.goto 4, 3) := by decide +kernel
theorem dX8_lowers_37 : decode cX8_lowers 37 = .ok (.iload_n 2, 1) := by decide +kernel
theorem dX8_lowers_38 : decode cX8_lowers 38 = .ok (.iastore, 1) := by decide +kernel
theorem dX8_lowers_39 : decode cX8_lowers 39 = .ok (.return_, 1) := by decide +kernel
theorem dX8_alarms_0 : decode cX8_alarms 0 = .ok (.aload_n 0, 1) := by decide +kernel
theorem dX8_alarms_1 : decode cX8_alarms 1 = .ok (.getfield 16, 3) := by decide +kernel
theorem dX8_alarms_4 : decode cX8_alarms 4 = .ok (.iconst 1, 1) := by decide +kernel
theorem dX8_alarms_5 : decode cX8_alarms 5 = .ok (.iaload, 1) := by decide +kernel
theorem dX8_alarms_6 : decode cX8_alarms 6 = .ok (.ifCond .ne 20, 3) := by decide +kernel
theorem dX8_alarms_9 : decode cX8_alarms 9 = .ok (.aload_n 0, 1) := by decide +kernel
theorem dX8_alarms_10 : decode cX8_alarms 10 = .ok (.iload_n 1, 1) := by decide +kernel
theorem dX8_alarms_11 : decode cX8_alarms 11 = .ok (.invokevirtual 82, 3) := by decide +kernel
theorem dX8_alarms_14 : decode cX8_alarms 14 = .ok (.aload_n 0, 1) := by decide +kernel
theorem dX8_alarms_15 : decode cX8_alarms 15 = .ok (.getfield 16, 3) := by decide +kernel
theorem dX8_alarms_18 : decode cX8_alarms 18 = .ok (.bipush 7, 2) := by decide +kernel
theorem dX8_alarms_20 : decode cX8_alarms 20 = .ok (.dup2, 1) := by decide +kernel
theorem dX8_alarms_21 : decode cX8_alarms 21 = .ok (.iaload, 1) := by decide +kernel
theorem dX8_alarms_22 : decode cX8_alarms 22 = .ok (.iconst 1, 1) := by decide +kernel
theorem dX8_alarms_23 : decode cX8_alarms 23 = .ok (.iadd, 1) := by decide +kernel
theorem dX8_alarms_24 : decode cX8_alarms 24 = .ok (.iastore, 1) := by decide +kernel
theorem dX8_alarms_25 : decode cX8_alarms 25 = .ok (.return_, 1) := by decide +kernel
theorem dX8_alarms_26 : decode cX8_alarms 26 = .ok (.aload_n 0, 1) := by decide +kernel
theorem dX8_alarms_27 : decode cX8_alarms 27 = .ok (.getfield 16, 3) := by decide +kernel
theorem dX8_alarms_30 : decode cX8_alarms 30 = .ok (.iload_n 1, 1) := by decide +kernel
theorem dX8_alarms_31 : decode cX8_alarms 31 = .ok (.iconst 5, 1) := by decide +kernel
theorem dX8_alarms_32 : decode cX8_alarms 32 = .ok (.invokestatic 64, 3) := by decide +kernel
theorem dX8_alarms_35 : decode cX8_alarms 35 = .ok (.iconst 1, 1) := by decide +kernel
theorem dX8_alarms_36 : decode cX8_alarms 36 = .ok (.iastore, 1) := by decide +kernel
theorem dX8_alarms_37 : decode cX8_alarms 37 = .ok (.aload_n 0, 1) := by decide +kernel
theorem dX8_alarms_38 : decode cX8_alarms 38 = .ok (.getfield 16, 3) := by decide +kernel
theorem dX8_alarms_41 : decode cX8_alarms 41 = .ok (.iload_n 1, 1) := by decide +kernel
theorem dX8_alarms_42 : decode cX8_alarms 42 = .ok (.iconst 4, 1) := by decide +kernel
theorem dX8_alarms_43 : decode cX8_alarms 43 = .ok (.invokestatic 64, 3) := by decide +kernel
theorem dX8_alarms_46 : decode cX8_alarms 46 = .ok (.aload_n 0, 1) := by decide +kernel
theorem dX8_alarms_47 : decode cX8_alarms 47 = .ok (.iload_n 1, 1) := by decide +kernel
theorem dX8_alarms_48 : decode cX8_alarms 48 = .ok (.invokevirtual 135, 3) := by decide +kernel
theorem dX8_alarms_51 : decode cX8_alarms 51 = .ok (.iconst 1, 1) := by decide +kernel
theorem dX8_alarms_52 : decode cX8_alarms 52 = .ok (.iadd, 1) := by decide +kernel
theorem dX8_alarms_53 : decode cX8_alarms 53 = .ok (.iastore, 1) := by decide +kernel
theorem dX8_alarms_54 : decode cX8_alarms 54 = .ok (.aload_n 0, 1) := by decide +kernel
theorem dX8_alarms_55 : decode cX8_alarms 55 = .ok (.getfield 16, 3) := by decide +kernel
theorem dX8_alarms_58 : decode cX8_alarms 58 = .ok (.bipush 6, 2) := by decide +kernel
theorem dX8_alarms_60 : decode cX8_alarms 60 = .ok (.dup2, 1) := by decide +kernel
theorem dX8_alarms_61 : decode cX8_alarms 61 = .ok (.iaload, 1) := by decide +kernel
theorem dX8_alarms_62 : decode cX8_alarms 62 = .ok (.iconst 1, 1) := by decide +kernel
theorem dX8_alarms_63 : decode cX8_alarms 63 = .ok (.iadd, 1) := by decide +kernel
theorem dX8_alarms_64 : decode cX8_alarms 64 = .ok (.iastore, 1) := by decide +kernel
theorem dX8_alarms_65 : decode cX8_alarms 65 = .ok (.return_, 1) := by decide +kernel
theorem dX8_settles_0 : decode cX8_settles 0 = .ok (.aload_n 0, 1) := by decide +kernel
theorem dX8_settles_1 : decode cX8_settles 1 = .ok (.iload_n 1, 1) := by decide +kernel
theorem dX8_settles_2 : decode cX8_settles 2 = .ok (.invokevirtual 117, 3) := by decide +kernel
theorem dX8_settles_5 : decode cX8_settles 5 = .ok (.ifCond .eq 25, 3) := by decide +kernel
theorem dX8_settles_8 : decode cX8_settles 8 = .ok (.aload_n 0, 1) := by decide +kernel
theorem dX8_settles_9 : decode cX8_settles 9 = .ok (.iload_n 1, 1) := by decide +kernel
theorem dX8_settles_10 : decode cX8_settles 10 = .ok (.invokevirtual 132, 3) := by decide +kernel
theorem dX8_settles_13 : decode cX8_settles 13 = .ok (.aload_n 0, 1) := by decide +kernel
theorem dX8_settles_14 : decode cX8_settles 14 = .ok (.getfield 16, 3) := by decide +kernel
theorem dX8_settles_17 : decode cX8_settles 17 = .ok (.iload_n 1, 1) := by decide +kernel
theorem dX8_settles_18 : decode cX8_settles 18 = .ok (.iconst 0, 1) := by decide +kernel
theorem dX8_settles_19 : decode cX8_settles 19 = .ok (.invokestatic 64, 3) := by decide +kernel
theorem dX8_settles_22 : decode cX8_settles 22 = .ok (.iaload, 1) := by decide +kernel
theorem dX8_settles_23 : decode cX8_settles 23 = .ok (.if_icmp .ne 7, 3) := by decide +kernel
theorem dX8_settles_26 : decode cX8_settles 26 = .ok (.iconst 1, 1) := by decide +kernel
theorem dX8_settles_27 : decode cX8_settles 27 = .ok (.goto 4, 3) := by decide +kernel
theorem dX8_settles_30 : decode cX8_settles 30 = .ok (.iconst 0, 1) := by decide +kernel
theorem dX8_settles_31 : decode cX8_settles 31 = .ok (.istore_n 2, 1) := by decide +kernel
theorem dX8_settles_32 : decode cX8_settles 32 = .ok (.iload_n 2, 1) := by decide +kernel
theorem dX8_settles_33 : decode cX8_settles 33 = .ok (.ifCond .ne 17, 3) := by decide +kernel
theorem dX8_settles_36 : decode cX8_settles 36 = .ok (.aload_n 0, 1) := by decide +kernel
theorem dX8_settles_37 : decode cX8_settles 37 = .ok (.getfield 16, 3) := by decide +kernel
theorem dX8_settles_40 : decode cX8_settles 40 = .ok (.iload_n 1, 1) := by decide +kernel
theorem dX8_settles_41 : decode cX8_settles 41 = .ok (.iconst 2, 1) := by decide +kernel
theorem dX8_settles_42 : decode cX8_settles 42 = .ok (.invokestatic 64, 3) := by decide +kernel
theorem dX8_settles_45 : decode cX8_settles 45 = .ok (.iaload, 1) := by decide +kernel
theorem dX8_settles_46 : decode cX8_settles 46 = .ok (.ifCond .le 4, 3) := by decide +kernel
theorem dX8_settles_49 : decode cX8_settles 49 = .ok (.return_, 1) := by decide +kernel
theorem dX8_settles_50 : decode cX8_settles 50 = .ok (.aload_n 0, 1) := by decide +kernel
theorem dX8_settles_51 : decode cX8_settles 51 = .ok (.getfield 16, 3) := by decide +kernel
theorem dX8_settles_54 : decode cX8_settles 54 = .ok (.bipush 7, 2) := by decide +kernel
theorem dX8_settles_56 : decode cX8_settles 56 = .ok (.dup2, 1) := by decide +kernel
theorem dX8_settles_57 : decode cX8_settles 57 = .ok (.iaload, 1) := by decide +kernel
theorem dX8_settles_58 : decode cX8_settles 58 = .ok (.iload_n 2, 1) := by decide +kernel
theorem dX8_settles_59 : decode cX8_settles 59 = .ok (.ifCond .eq 7, 3) := by decide +kernel
theorem dX8_settles_62 : decode cX8_settles 62 = .ok (.iconst 0, 1) := by decide +kernel
theorem dX8_settles_63 : decode cX8_settles 63 = .ok (.goto 4, 3) := by decide +kernel
theorem dX8_settles_66 : decode cX8_settles 66 = .ok (.iconst 1, 1) := by decide +kernel
theorem dX8_settles_67 : decode cX8_settles 67 = .ok (.iadd, 1) := by decide +kernel
theorem dX8_settles_68 : decode cX8_settles 68 = .ok (.iastore, 1) := by decide +kernel
theorem dX8_settles_69 : decode cX8_settles 69 = .ok (.aload_n 0, 1) := by decide +kernel
theorem dX8_settles_70 : decode cX8_settles 70 = .ok (.iload_n 1, 1) := by decide +kernel
theorem dX8_settles_71 : decode cX8_settles 71 = .ok (.invokevirtual 82, 3) := by decide +kernel
theorem dX8_settles_74 : decode cX8_settles 74 = .ok (.return_, 1) := by decide +kernel
theorem dX8_tick_0 : decode cX8_tick 0 = .ok (.iconst 0, 1) := by decide +kernel
theorem dX8_tick_1 : decode cX8_tick 1 = .ok (.istore_n 1, 1) := by decide +kernel
theorem dX8_tick_2 : decode cX8_tick 2 = .ok (.aload_n 0, 1) := by decide +kernel
theorem dX8_tick_3 : decode cX8_tick 3 = .ok (.getfield 16, 3) := by decide +kernel
theorem dX8_tick_6 : decode cX8_tick 6 = .ok (.iconst 3, 1) := by decide +kernel
theorem dX8_tick_7 : decode cX8_tick 7 = .ok (.dup2, 1) := by decide +kernel
theorem dX8_tick_8 : decode cX8_tick 8 = .ok (.iaload, 1) := by decide +kernel
theorem dX8_tick_9 : decode cX8_tick 9 = .ok (.iconst 1, 1) := by decide +kernel
theorem dX8_tick_10 : decode cX8_tick 10 = .ok (.iadd, 1) := by decide +kernel
theorem dX8_tick_11 : decode cX8_tick 11 = .ok (.iastore, 1) := by decide +kernel
theorem dX8_tick_12 : decode cX8_tick 12 = .ok (.aload_n 0, 1) := by decide +kernel
theorem dX8_tick_13 : decode cX8_tick 13 = .ok (.invokevirtual 183, 3) := by decide +kernel
theorem dX8_tick_16 : decode cX8_tick 16 = .ok (.iconst 0, 1) := by decide +kernel
theorem dX8_tick_17 : decode cX8_tick 17 = .ok (.istore_n 2, 1) := by decide +kernel
theorem dX8_tick_18 : decode cX8_tick 18 = .ok (.iload_n 2, 1) := by decide +kernel
theorem dX8_tick_19 : decode cX8_tick 19 = .ok (.aload_n 0, 1) := by decide +kernel
theorem dX8_tick_20 : decode cX8_tick 20 = .ok (.getfield 16, 3) := by decide +kernel
theorem dX8_tick_23 : decode cX8_tick 23 = .ok (.iconst 0, 1) := by decide +kernel
theorem dX8_tick_24 : decode cX8_tick 24 = .ok (.iaload, 1) := by decide +kernel
theorem dX8_tick_25 : decode cX8_tick 25 = .ok (.if_icmp .ge 41, 3) := by decide +kernel
theorem dX8_tick_28 : decode cX8_tick 28 = .ok (.aload_n 0, 1) := by decide +kernel
theorem dX8_tick_29 : decode cX8_tick 29 = .ok (.getfield 32, 3) := by decide +kernel
theorem dX8_tick_32 : decode cX8_tick 32 = .ok (.iload_n 2, 1) := by decide +kernel
theorem dX8_tick_33 : decode cX8_tick 33 = .ok (.aload_n 0, 1) := by decide +kernel
theorem dX8_tick_34 : decode cX8_tick 34 = .ok (.iload_n 2, 1) := by decide +kernel
theorem dX8_tick_35 : decode cX8_tick 35 = .ok (.invokevirtual 186, 3) := by decide +kernel
theorem dX8_tick_38 : decode cX8_tick 38 = .ok (.ifCond .eq 11, 3) := by decide +kernel
theorem dX8_tick_41 : decode cX8_tick 41 = .ok (.aload_n 0, 1) := by decide +kernel
theorem dX8_tick_42 : decode cX8_tick 42 = .ok (.iload_n 2, 1) := by decide +kernel
theorem dX8_tick_43 : decode cX8_tick 43 = .ok (.invokevirtual 189, 3) := by decide +kernel
theorem dX8_tick_46 : decode cX8_tick 46 = .ok (.goto 4, 3) := by decide +kernel
theorem dX8_tick_49 : decode cX8_tick 49 = .ok (.iconst 0, 1) := by decide +kernel
theorem dX8_tick_50 : decode cX8_tick 50 = .ok (.iastore, 1) := by decide +kernel
theorem dX8_tick_51 : decode cX8_tick 51 = .ok (.iload_n 1, 1) := by decide +kernel
theorem dX8_tick_52 : decode cX8_tick 52 = .ok (.aload_n 0, 1) := by decide +kernel
theorem dX8_tick_53 : decode cX8_tick 53 = .ok (.getfield 32, 3) := by decide +kernel
theorem dX8_tick_56 : decode cX8_tick 56 = .ok (.iload_n 2, 1) := by decide +kernel
theorem dX8_tick_57 : decode cX8_tick 57 = .ok (.iaload, 1) := by decide +kernel
theorem dX8_tick_58 : decode cX8_tick 58 = .ok (.iadd, 1) := by decide +kernel
theorem dX8_tick_59 : decode cX8_tick 59 = .ok (.istore_n 1, 1) := by decide +kernel
theorem dX8_tick_60 : decode cX8_tick 60 = .ok (.iinc 2 1, 3) := by decide +kernel
theorem dX8_tick_63 : decode cX8_tick 63 = .ok (.goto (-45), 3) := by decide +kernel
theorem dX8_tick_66 : decode cX8_tick 66 = .ok (.aload_n 0, 1) := by decide +kernel
theorem dX8_tick_67 : decode cX8_tick 67 = .ok (.getfield 16, 3) := by decide +kernel
theorem dX8_tick_70 : decode cX8_tick 70 = .ok (.iconst 4, 1) := by decide +kernel
theorem dX8_tick_71 : decode cX8_tick 71 = .ok (.dup2, 1) := by decide +kernel
theorem dX8_tick_72 : decode cX8_tick 72 = .ok (.iaload, 1) := by decide +kernel
theorem dX8_tick_73 : decode cX8_tick 73 = .ok (.iload_n 1, 1) := by decide +kernel
theorem dX8_tick_74 : decode cX8_tick 74 = .ok (.iadd, 1) := by decide +kernel
theorem dX8_tick_75 : decode cX8_tick 75 = .ok (.iastore, 1) := by decide +kernel
theorem dX8_tick_76 : decode cX8_tick 76 = .ok (.iconst 0, 1) := by decide +kernel
theorem dX8_tick_77 : decode cX8_tick 77 = .ok (.istore_n 2, 1) := by decide +kernel
theorem dX8_tick_78 : decode cX8_tick 78 = .ok (.iload_n 2, 1) := by decide +kernel
theorem dX8_tick_79 : decode cX8_tick 79 = .ok (.aload_n 0, 1) := by decide +kernel
theorem dX8_tick_80 : decode cX8_tick 80 = .ok (.getfield 16, 3) := by decide +kernel
theorem dX8_tick_83 : decode cX8_tick 83 = .ok (.iconst 0, 1) := by decide +kernel
theorem dX8_tick_84 : decode cX8_tick 84 = .ok (.iaload, 1) := by decide +kernel
theorem dX8_tick_85 : decode cX8_tick 85 = .ok (.if_icmp .ge 22, 3) := by decide +kernel
theorem dX8_tick_88 : decode cX8_tick 88 = .ok (.aload_n 0, 1) := by decide +kernel
theorem dX8_tick_89 : decode cX8_tick 89 = .ok (.iload_n 2, 1) := by decide +kernel
theorem dX8_tick_90 : decode cX8_tick 90 = .ok (.invokevirtual 104, 3) := by decide +kernel
theorem dX8_tick_93 : decode cX8_tick 93 = .ok (.ifCond .eq 8, 3) := by decide +kernel
theorem dX8_tick_96 : decode cX8_tick 96 = .ok (.aload_n 0, 1) := by decide +kernel
theorem dX8_tick_97 : decode cX8_tick 97 = .ok (.iload_n 2, 1) := by decide +kernel
theorem dX8_tick_98 : decode cX8_tick 98 = .ok (.invokevirtual 192, 3) := by decide +kernel
theorem dX8_tick_101 : decode cX8_tick 101 = .ok (.iinc 2 1, 3) := by decide +kernel
theorem dX8_tick_104 : decode cX8_tick 104 = .ok (.goto (-26), 3) := by decide +kernel
theorem dX8_tick_107 : decode cX8_tick 107 = .ok (.iconst 0, 1) := by decide +kernel
theorem dX8_tick_108 : decode cX8_tick 108 = .ok (.istore_n 2, 1) := by decide +kernel
theorem dX8_tick_109 : decode cX8_tick 109 = .ok (.iload_n 2, 1) := by decide +kernel
theorem dX8_tick_110 : decode cX8_tick 110 = .ok (.aload_n 0, 1) := by decide +kernel
theorem dX8_tick_111 : decode cX8_tick 111 = .ok (.getfield 16, 3) := by decide +kernel
theorem dX8_tick_114 : decode cX8_tick 114 = .ok (.iconst 0, 1) := by decide +kernel
theorem dX8_tick_115 : decode cX8_tick 115 = .ok (.iaload, 1) := by decide +kernel
theorem dX8_tick_116 : decode cX8_tick 116 = .ok (.if_icmp .ge 41, 3) := by decide +kernel
theorem dX8_tick_119 : decode cX8_tick 119 = .ok (.aload_n 0, 1) := by decide +kernel
theorem dX8_tick_120 : decode cX8_tick 120 = .ok (.iload_n 2, 1) := by decide +kernel
theorem dX8_tick_121 : decode cX8_tick 121 = .ok (.invokevirtual 157, 3) := by decide +kernel
theorem dX8_tick_124 : decode cX8_tick 124 = .ok (.ifCond .eq 27, 3) := by decide +kernel
theorem dX8_tick_127 : decode cX8_tick 127 = .ok (.aload_n 0, 1) := by decide +kernel
theorem dX8_tick_128 : decode cX8_tick 128 = .ok (.getfield 16, 3) := by decide +kernel
theorem dX8_tick_131 : decode cX8_tick 131 = .ok (.iload_n 2, 1) := by decide +kernel
theorem dX8_tick_132 : decode cX8_tick 132 = .ok (.iconst 2, 1) := by decide +kernel
theorem dX8_tick_133 : decode cX8_tick 133 = .ok (.invokestatic 64, 3) := by decide +kernel
theorem dX8_tick_136 : decode cX8_tick 136 = .ok (.iaload, 1) := by decide +kernel
theorem dX8_tick_137 : decode cX8_tick 137 = .ok (.aload_n 0, 1) := by decide +kernel
theorem dX8_tick_138 : decode cX8_tick 138 = .ok (.getfield 16, 3) := by decide +kernel
theorem dX8_tick_141 : decode cX8_tick 141 = .ok (.iconst 2, 1) := by decide +kernel
theorem dX8_tick_142 : decode cX8_tick 142 = .ok (.iaload, 1) := by decide +kernel
theorem dX8_tick_143 : decode cX8_tick 143 = .ok (.if_icmp .gt 8, 3) := by decide +kernel
theorem dX8_tick_146 : decode cX8_tick 146 = .ok (.aload_n 0, 1) := by decide +kernel
theorem dX8_tick_147 : decode cX8_tick 147 = .ok (.iload_n 2, 1) := by decide +kernel
theorem dX8_tick_148 : decode cX8_tick 148 = .ok (.invokevirtual 195, 3) := by decide +kernel
theorem dX8_tick_151 : decode cX8_tick 151 = .ok (.iinc 2 1, 3) := by decide +kernel
theorem dX8_tick_154 : decode cX8_tick 154 = .ok (.goto (-45), 3) := by decide +kernel
theorem dX8_tick_157 : decode cX8_tick 157 = .ok (.iconst 0, 1) := by decide +kernel
theorem dX8_tick_158 : decode cX8_tick 158 = .ok (.istore_n 2, 1) := by decide +kernel
theorem dX8_tick_159 : decode cX8_tick 159 = .ok (.iload_n 2, 1) := by decide +kernel
theorem dX8_tick_160 : decode cX8_tick 160 = .ok (.aload_n 0, 1) := by decide +kernel
theorem dX8_tick_161 : decode cX8_tick 161 = .ok (.getfield 16, 3) := by decide +kernel
theorem dX8_tick_164 : decode cX8_tick 164 = .ok (.iconst 0, 1) := by decide +kernel
theorem dX8_tick_165 : decode cX8_tick 165 = .ok (.iaload, 1) := by decide +kernel
theorem dX8_tick_166 : decode cX8_tick 166 = .ok (.if_icmp .ge 22, 3) := by decide +kernel
theorem dX8_tick_169 : decode cX8_tick 169 = .ok (.aload_n 0, 1) := by decide +kernel
theorem dX8_tick_170 : decode cX8_tick 170 = .ok (.iload_n 2, 1) := by decide +kernel
theorem dX8_tick_171 : decode cX8_tick 171 = .ok (.invokevirtual 104, 3) := by decide +kernel
theorem dX8_tick_174 : decode cX8_tick 174 = .ok (.ifCond .eq 8, 3) := by decide +kernel
theorem dX8_tick_177 : decode cX8_tick 177 = .ok (.aload_n 0, 1) := by decide +kernel
theorem dX8_tick_178 : decode cX8_tick 178 = .ok (.iload_n 2, 1) := by decide +kernel
theorem dX8_tick_179 : decode cX8_tick 179 = .ok (.invokevirtual 198, 3) := by decide +kernel
theorem dX8_tick_182 : decode cX8_tick 182 = .ok (.iinc 2 1, 3) := by decide +kernel
theorem dX8_tick_185 : decode cX8_tick 185 = .ok (.goto (-26), 3) := by decide +kernel
theorem dX8_tick_188 : decode cX8_tick 188 = .ok (.iconst 0, 1) := by decide +kernel
theorem dX8_tick_189 : decode cX8_tick 189 = .ok (.istore_n 2, 1) := by decide +kernel
theorem dX8_tick_190 : decode cX8_tick 190 = .ok (.iload_n 2, 1) := by decide +kernel
theorem dX8_tick_191 : decode cX8_tick 191 = .ok (.aload_n 0, 1) := by decide +kernel
theorem dX8_tick_192 : decode cX8_tick 192 = .ok (.getfield 16, 3) := by decide +kernel
theorem dX8_tick_195 : decode cX8_tick 195 = .ok (.iconst 0, 1) := by decide +kernel
theorem dX8_tick_196 : decode cX8_tick 196 = .ok (.iaload, 1) := by decide +kernel
theorem dX8_tick_197 : decode cX8_tick 197 = .ok (.if_icmp .ge 72, 3) := by decide +kernel
theorem dX8_tick_200 : decode cX8_tick 200 = .ok (.aload_n 0, 1) := by decide +kernel
theorem dX8_tick_201 : decode cX8_tick 201 = .ok (.iload_n 2, 1) := by decide +kernel
theorem dX8_tick_202 : decode cX8_tick 202 = .ok (.invokevirtual 104, 3) := by decide +kernel
theorem dX8_tick_205 : decode cX8_tick 205 = .ok (.ifCond .ne 58, 3) := by decide +kernel
theorem dX8_tick_208 : decode cX8_tick 208 = .ok (.aload_n 0, 1) := by decide +kernel
theorem dX8_tick_209 : decode cX8_tick 209 = .ok (.aload_n 0, 1) := by decide +kernel
theorem dX8_tick_210 : decode cX8_tick 210 = .ok (.getfield 16, 3) := by decide +kernel
theorem dX8_tick_213 : decode cX8_tick 213 = .ok (.iload_n 2, 1) := by decide +kernel
theorem dX8_tick_214 : decode cX8_tick 214 = .ok (.iconst 0, 1) := by decide +kernel
theorem dX8_tick_215 : decode cX8_tick 215 = .ok (.invokestatic 64, 3) := by decide +kernel
theorem dX8_tick_218 : decode cX8_tick 218 = .ok (.iaload, 1) := by decide +kernel
theorem dX8_tick_219 : decode cX8_tick 219 = .ok (.invokevirtual 95, 3) := by decide +kernel
theorem dX8_tick_222 : decode cX8_tick 222 = .ok (.ifCond .ne 6, 3) := by decide +kernel
theorem dX8_tick_225 : decode cX8_tick 225 = .ok (.goto 38, 3) := by decide +kernel
theorem dX8_tick_228 : decode cX8_tick 228 = .ok (.aload_n 0, 1) := by decide +kernel
theorem dX8_tick_229 : decode cX8_tick 229 = .ok (.getfield 16, 3) := by decide +kernel
theorem dX8_tick_232 : decode cX8_tick 232 = .ok (.iload_n 2, 1) := by decide +kernel
theorem dX8_tick_233 : decode cX8_tick 233 = .ok (.iconst 2, 1) := by decide +kernel
theorem dX8_tick_234 : decode cX8_tick 234 = .ok (.invokestatic 64, 3) := by decide +kernel
theorem dX8_tick_237 : decode cX8_tick 237 = .ok (.iaload, 1) := by decide +kernel
theorem dX8_tick_238 : decode cX8_tick 238 = .ok (.iconst 5, 1) := by decide +kernel
theorem dX8_tick_239 : decode cX8_tick 239 = .ok (.iadd, 1) := by decide +kernel
theorem dX8_tick_240 : decode cX8_tick 240 = .ok (.istore_n 3, 1) := by decide +kernel
theorem dX8_tick_241 : decode cX8_tick 241 = .ok (.aload_n 0, 1) := by decide +kernel
theorem dX8_tick_242 : decode cX8_tick 242 = .ok (.getfield 16, 3) := by decide +kernel
theorem dX8_tick_245 : decode cX8_tick 245 = .ok (.iload_n 2, 1) := by decide +kernel
theorem dX8_tick_246 : decode cX8_tick 246 = .ok (.iconst 2, 1) := by decide +kernel
theorem dX8_tick_247 : decode cX8_tick 247 = .ok (.invokestatic 64, 3) := by decide +kernel
theorem dX8_tick_250 : decode cX8_tick 250 = .ok (.iload_n 3, 1) := by decide +kernel
theorem dX8_tick_251 : decode cX8_tick 251 = .ok (.bipush 100, 2) := by decide +kernel
theorem dX8_tick_253 : decode cX8_tick 253 = .ok (.if_icmp .le 8, 3) := by decide +kernel
theorem dX8_tick_256 : decode cX8_tick 256 = .ok (.bipush 100, 2) := by decide +kernel
theorem dX8_tick_258 : decode cX8_tick 258 = .ok (.goto 4, 3) := by decide +kernel
theorem dX8_tick_261 : decode cX8_tick 261 = .ok (.iload_n 3, 1) := by decide +kernel
theorem dX8_tick_262 : decode cX8_tick 262 = .ok (.iastore, 1) := by decide +kernel
theorem dX8_tick_263 : decode cX8_tick 263 = .ok (.iinc 2 1, 3) := by decide +kernel
theorem dX8_tick_266 : decode cX8_tick 266 = .ok (.goto (-76), 3) := by decide +kernel
theorem dX8_tick_269 : decode cX8_tick 269 = .ok (.iload_n 1, 1) := by decide +kernel
theorem dX8_tick_270 : decode cX8_tick 270 = .ok (.ireturn, 1) := by decide +kernel
theorem dX8_passes_0 : decode cX8_passes 0 = .ok (.iload_n 1, 1) := by decide +kernel
theorem dX8_passes_1 : decode cX8_passes 1 = .ok (.iconst 1, 1) := by decide +kernel
theorem dX8_passes_2 : decode cX8_passes 2 = .ok (.bipush 30, 2) := by decide +kernel
theorem dX8_passes_4 : decode cX8_passes 4 = .ok (.invokestatic 60, 3) := by decide +kernel
theorem dX8_passes_7 : decode cX8_passes 7 = .ok (.ifCond .ne 9, 3) := by decide +kernel
theorem dX8_passes_10 : decode cX8_passes 10 = .ok (.aload_n 0, 1) := by decide +kernel
theorem dX8_passes_11 : decode cX8_passes 11 = .ok (.iconst 1, 1) := by decide +kernel
theorem dX8_passes_12 : decode cX8_passes 12 = .ok (.invokevirtual 76, 3) := by decide +kernel
theorem dX8_passes_15 : decode cX8_passes 15 = .ok (.ireturn, 1) := by decide +kernel
theorem dX8_passes_16 : decode cX8_passes 16 = .ok (.iconst 0, 1) := by decide +kernel
theorem dX8_passes_17 : decode cX8_passes 17 = .ok (.istore_n 2, 1) := by decide +kernel
theorem dX8_passes_18 : decode cX8_passes 18 = .ok (.iconst 0, 1) := by decide +kernel
theorem dX8_passes_19 : decode cX8_passes 19 = .ok (.istore_n 3, 1) := by decide +kernel
theorem dX8_passes_20 : decode cX8_passes 20 = .ok (.iload_n 3, 1) := by decide +kernel
theorem dX8_passes_21 : decode cX8_passes 21 = .ok (.iload_n 1, 1) := by decide +kernel
theorem dX8_passes_22 : decode cX8_passes 22 = .ok (.if_icmp .ge 16, 3) := by decide +kernel
theorem dX8_passes_25 : decode cX8_passes 25 = .ok (.iload_n 2, 1) := by decide +kernel
theorem dX8_passes_26 : decode cX8_passes 26 = .ok (.aload_n 0, 1) := by decide +kernel
theorem dX8_passes_27 : decode cX8_passes 27 = .ok (.invokevirtual 201, 3) := by decide +kernel
theorem dX8_passes_30 : decode cX8_passes 30 = .ok (.iadd, 1) := by decide +kernel
theorem dX8_passes_31 : decode cX8_passes 31 = .ok (.istore_n 2, 1) := by decide +kernel
theorem dX8_passes_32 : decode cX8_passes 32 = .ok (.iinc 3 1, 3) := by decide +kernel
theorem dX8_passes_35 : decode cX8_passes 35 = .ok (.goto (-15), 3) := by decide +kernel
theorem dX8_passes_38 : decode cX8_passes 38 = .ok (.iload_n 2, 1) := by decide +kernel
theorem dX8_passes_39 : decode cX8_passes 39 = .ok (.ireturn, 1) := by decide +kernel
theorem dX8_advance_0 : decode cX8_advance 0 = .ok (.aload_n 0, 1) := by decide +kernel
theorem dX8_advance_1 : decode cX8_advance 1 = .ok (.invokevirtual 86, 3) := by decide +kernel
theorem dX8_advance_4 : decode cX8_advance 4 = .ok (.aload_n 0, 1) := by decide +kernel
theorem dX8_advance_5 : decode cX8_advance 5 = .ok (.aload_n 0, 1) := by decide +kernel
theorem dX8_advance_6 : decode cX8_advance 6 = .ok (.iload_n 1, 1) := by decide +kernel
theorem dX8_advance_7 : decode cX8_advance 7 = .ok (.invokevirtual 204, 3) := by decide +kernel
theorem dX8_advance_10 : decode cX8_advance 10 = .ok (.invokevirtual 92, 3) := by decide +kernel
theorem dX8_advance_13 : decode cX8_advance 13 = .ok (.ireturn, 1) := by decide +kernel
theorem dX8_now_0 : decode cX8_now 0 = .ok (.aload_n 0, 1) := by decide +kernel
theorem dX8_now_1 : decode cX8_now 1 = .ok (.iconst 0, 1) := by decide +kernel
theorem dX8_now_2 : decode cX8_now 2 = .ok (.putfield 50, 3) := by decide +kernel
theorem dX8_now_5 : decode cX8_now 5 = .ok (.aload_n 0, 1) := by decide +kernel
theorem dX8_now_6 : decode cX8_now 6 = .ok (.getfield 16, 3) := by decide +kernel
theorem dX8_now_9 : decode cX8_now 9 = .ok (.iconst 3, 1) := by decide +kernel
theorem dX8_now_10 : decode cX8_now 10 = .ok (.iaload, 1) := by decide +kernel
theorem dX8_now_11 : decode cX8_now 11 = .ok (.ireturn, 1) := by decide +kernel
theorem dX8_wantedCell_0 : decode cX8_wantedCell 0 = .ok (.aload_n 0, 1) := by decide +kernel
theorem dX8_wantedCell_1 : decode cX8_wantedCell 1 = .ok (.aload_n 0, 1) := by decide +kernel
theorem dX8_wantedCell_2 : decode cX8_wantedCell 2 = .ok (.iload_n 1, 1) := by decide +kernel
theorem dX8_wantedCell_3 : decode cX8_wantedCell 3 = .ok (.invokevirtual 101, 3) := by decide +kernel
theorem dX8_wantedCell_6 : decode cX8_wantedCell 6 = .ok (.ifCond .ne 7, 3) := by decide +kernel
theorem dX8_wantedCell_9 : decode cX8_wantedCell 9 = .ok (.iconst 1, 1) := by decide +kernel
theorem dX8_wantedCell_10 : decode cX8_wantedCell 10 = .ok (.goto 16, 3) := by decide +kernel
theorem dX8_wantedCell_13 : decode cX8_wantedCell 13 = .ok (.aload_n 0, 1) := by decide +kernel
theorem dX8_wantedCell_14 : decode cX8_wantedCell 14 = .ok (.iload_n 1, 1) := by decide +kernel
theorem dX8_wantedCell_15 : decode cX8_wantedCell 15 = .ok (.invokevirtual 186, 3) := by decide +kernel
theorem dX8_wantedCell_18 : decode cX8_wantedCell 18 = .ok (.ifCond .eq 7, 3) := by decide +kernel
theorem dX8_wantedCell_21 : decode cX8_wantedCell 21 = .ok (.iconst 0, 1) := by decide +kernel
theorem dX8_wantedCell_22 : decode cX8_wantedCell 22 = .ok (.goto 4, 3) := by decide +kernel
theorem dX8_wantedCell_25 : decode cX8_wantedCell 25 = .ok (.iconst 2, 1) := by decide +kernel
theorem dX8_wantedCell_26 : decode cX8_wantedCell 26 = .ok (.putfield 50, 3) := by decide +kernel
theorem dX8_wantedCell_29 : decode cX8_wantedCell 29 = .ok (.aload_n 0, 1) := by decide +kernel
theorem dX8_wantedCell_30 : decode cX8_wantedCell 30 = .ok (.getfield 50, 3) := by decide +kernel
theorem dX8_wantedCell_33 : decode cX8_wantedCell 33 = .ok (.ifCond .ne 11, 3) := by decide +kernel
theorem dX8_wantedCell_36 : decode cX8_wantedCell 36 = .ok (.aload_n 0, 1) := by decide +kernel
theorem dX8_wantedCell_37 : decode cX8_wantedCell 37 = .ok (.iload_n 1, 1) := by decide +kernel
theorem dX8_wantedCell_38 : decode cX8_wantedCell 38 = .ok (.invokevirtual 180, 3) := by decide +kernel
theorem dX8_wantedCell_41 : decode cX8_wantedCell 41 = .ok (.goto 4, 3) := by decide +kernel
theorem dX8_wantedCell_44 : decode cX8_wantedCell 44 = .ok (.iconst 0, 1) := by decide +kernel
theorem dX8_wantedCell_45 : decode cX8_wantedCell 45 = .ok (.ireturn, 1) := by decide +kernel
theorem dX8_conflictCount_0 : decode cX8_conflictCount 0 = .ok (.aload_n 0, 1) := by decide +kernel
theorem dX8_conflictCount_1 : decode cX8_conflictCount 1 = .ok (.iconst 0, 1) := by decide +kernel
theorem dX8_conflictCount_2 : decode cX8_conflictCount 2 = .ok (.putfield 50, 3) := by decide +kernel
theorem dX8_conflictCount_5 : decode cX8_conflictCount 5 = .ok (.iconst 0, 1) := by decide +kernel
theorem dX8_conflictCount_6 : decode cX8_conflictCount 6 = .ok (.istore_n 1, 1) := by decide +kernel
theorem dX8_conflictCount_7 : decode cX8_conflictCount 7 = .ok (.iconst 0, 1) := by decide +kernel
theorem dX8_conflictCount_8 : decode cX8_conflictCount 8 = .ok (.istore_n 2, 1) := by decide +kernel
theorem dX8_conflictCount_9 : decode cX8_conflictCount 9 = .ok (.iload_n 2, 1) := by decide +kernel
theorem dX8_conflictCount_10 : decode cX8_conflictCount 10 = .ok (.aload_n 0, 1) := by decide +kernel
theorem dX8_conflictCount_11 : decode cX8_conflictCount 11 = .ok (.getfield 16, 3) := by decide +kernel
theorem dX8_conflictCount_14 : decode cX8_conflictCount 14 = .ok (.iconst 0, 1) := by decide +kernel
theorem dX8_conflictCount_15 : decode cX8_conflictCount 15 = .ok (.iaload, 1) := by decide +kernel
theorem dX8_conflictCount_16 : decode cX8_conflictCount 16 = .ok (.if_icmp .ge 62, 3) := by decide +kernel
theorem dX8_conflictCount_19 : decode cX8_conflictCount 19 = .ok (.aload_n 0, 1) := by decide +kernel
theorem dX8_conflictCount_20 : decode cX8_conflictCount 20 = .ok (.iload_n 2, 1) := by decide +kernel
theorem dX8_conflictCount_21 : decode cX8_conflictCount 21 = .ok (.invokevirtual 186, 3) := by decide +kernel
theorem dX8_conflictCount_24 : decode cX8_conflictCount 24 = .ok (.ifCond .ne 6, 3) := by decide +kernel
theorem dX8_conflictCount_27 : decode cX8_conflictCount 27 = .ok (.goto 45, 3) := by decide +kernel
theorem dX8_conflictCount_30 : decode cX8_conflictCount 30 = .ok (.iconst 0, 1) := by decide +kernel
theorem dX8_conflictCount_31 : decode cX8_conflictCount 31 = .ok (.istore_n 3, 1) := by decide +kernel
theorem dX8_conflictCount_32 : decode cX8_conflictCount 32 = .ok (.iload_n 3, 1) := by decide +kernel
theorem dX8_conflictCount_33 : decode cX8_conflictCount 33 = .ok (.iload_n 2, 1) := by decide +kernel
theorem dX8_conflictCount_34 : decode cX8_conflictCount 34 = .ok (.if_icmp .ge 38, 3) := by decide +kernel
theorem dX8_conflictCount_37 : decode cX8_conflictCount 37 = .ok (.iload_n 1, 1) := by decide +kernel
theorem dX8_conflictCount_38 : decode cX8_conflictCount 38 = .ok (.aload_n 0, 1) := by decide +kernel
theorem dX8_conflictCount_39 : decode cX8_conflictCount 39 = .ok (.iload_n 3, 1) := by decide +kernel
theorem dX8_conflictCount_40 : decode cX8_conflictCount 40 = .ok (.invokevirtual 186, 3) := by decide +kernel
theorem dX8_conflictCount_43 : decode cX8_conflictCount 43 = .ok (.ifCond .eq 20, 3) := by decide +kernel
theorem dX8_conflictCount_46 : decode cX8_conflictCount 46 = .ok (.aload_n 0, 1) := by decide +kernel
theorem dX8_conflictCount_47 : decode cX8_conflictCount 47 = .ok (.iload_n 3, 1) := by decide +kernel
theorem dX8_conflictCount_48 : decode cX8_conflictCount 48 = .ok (.invokevirtual 180, 3) := by decide +kernel
theorem dX8_conflictCount_51 : decode cX8_conflictCount 51 = .ok (.aload_n 0, 1) := by decide +kernel
theorem dX8_conflictCount_52 : decode cX8_conflictCount 52 = .ok (.iload_n 2, 1) := by decide +kernel
theorem dX8_conflictCount_53 : decode cX8_conflictCount 53 = .ok (.invokevirtual 180, 3) := by decide +kernel
theorem dX8_conflictCount_56 : decode cX8_conflictCount 56 = .ok (.if_icmp .ne 7, 3) := by decide +kernel
theorem dX8_conflictCount_59 : decode cX8_conflictCount 59 = .ok (.iconst 1, 1) := by decide +kernel
theorem dX8_conflictCount_60 : decode cX8_conflictCount 60 = .ok (.goto 4, 3) := by decide +kernel
theorem dX8_conflictCount_63 : decode cX8_conflictCount 63 = .ok (.iconst 0, 1) := by decide +kernel
theorem dX8_conflictCount_64 : decode cX8_conflictCount 64 = .ok (.iadd, 1) := by decide +kernel
theorem dX8_conflictCount_65 : decode cX8_conflictCount 65 = .ok (.istore_n 1, 1) := by decide +kernel
theorem dX8_conflictCount_66 : decode cX8_conflictCount 66 = .ok (.iinc 3 1, 3) := by decide +kernel
theorem dX8_conflictCount_69 : decode cX8_conflictCount 69 = .ok (.goto (-37), 3) := by decide +kernel
theorem dX8_conflictCount_72 : decode cX8_conflictCount 72 = .ok (.iinc 2 1, 3) := by decide +kernel
theorem dX8_conflictCount_75 : decode cX8_conflictCount 75 = .ok (.goto (-66), 3) := by decide +kernel
theorem dX8_conflictCount_78 : decode cX8_conflictCount 78 = .ok (.iload_n 1, 1) := by decide +kernel
theorem dX8_conflictCount_79 : decode cX8_conflictCount 79 = .ok (.ireturn, 1) := by decide +kernel
theorem dX8_conflictCountByCell_0 : decode cX8_conflictCountByCell 0 = .ok (.aload_n 0, 1) := by decide +kernel
theorem dX8_conflictCountByCell_1 : decode cX8_conflictCountByCell 1 = .ok (.invokevirtual 207, 3) := by decide +kernel
theorem dX8_conflictCountByCell_4 : decode cX8_conflictCountByCell 4 = .ok (.ireturn, 1) := by decide +kernel
theorem dX8_droneAtRank_0 : decode cX8_droneAtRank 0 = .ok (.aload_n 0, 1) := by decide +kernel
theorem dX8_droneAtRank_1 : decode cX8_droneAtRank 1 = .ok (.iconst 0, 1) := by decide +kernel
theorem dX8_droneAtRank_2 : decode cX8_droneAtRank 2 = .ok (.putfield 50, 3) := by decide +kernel
theorem dX8_droneAtRank_5 : decode cX8_droneAtRank 5 = .ok (.iconst 0, 1) := by decide +kernel
theorem dX8_droneAtRank_6 : decode cX8_droneAtRank 6 = .ok (.istore_n 2, 1) := by decide +kernel
theorem dX8_droneAtRank_7 : decode cX8_droneAtRank 7 = .ok (.iload_n 2, 1) := by decide +kernel
theorem dX8_droneAtRank_8 : decode cX8_droneAtRank 8 = .ok (.aload_n 0, 1) := by decide +kernel
theorem dX8_droneAtRank_9 : decode cX8_droneAtRank 9 = .ok (.getfield 16, 3) := by decide +kernel
theorem dX8_droneAtRank_12 : decode cX8_droneAtRank 12 = .ok (.iconst 0, 1) := by decide +kernel
theorem dX8_droneAtRank_13 : decode cX8_droneAtRank 13 = .ok (.iaload, 1) := by decide +kernel
theorem dX8_droneAtRank_14 : decode cX8_droneAtRank 14 = .ok (.if_icmp .ge 120, 3) := by decide +kernel
theorem dX8_droneAtRank_17 : decode cX8_droneAtRank 17 = .ok (.iconst 0, 1) := by decide +kernel
theorem dX8_droneAtRank_18 : decode cX8_droneAtRank 18 = .ok (.istore_n 3, 1) := by decide +kernel
theorem dX8_droneAtRank_19 : decode cX8_droneAtRank 19 = .ok (.iconst 0, 1) := by decide +kernel
theorem dX8_droneAtRank_20 : decode cX8_droneAtRank 20 = .ok (.istore 4, 2) := by decide +kernel
theorem dX8_droneAtRank_22 : decode cX8_droneAtRank 22 = .ok (.iload 4, 2) := by decide +kernel
theorem dX8_droneAtRank_24 : decode cX8_droneAtRank 24 = .ok (.aload_n 0, 1) := by decide +kernel
theorem dX8_droneAtRank_25 : decode cX8_droneAtRank 25 = .ok (.getfield 16, 3) := by decide +kernel
theorem dX8_droneAtRank_28 : decode cX8_droneAtRank 28 = .ok (.iconst 0, 1) := by decide +kernel
theorem dX8_droneAtRank_29 : decode cX8_droneAtRank 29 = .ok (.iaload, 1) := by decide +kernel
theorem dX8_droneAtRank_30 : decode cX8_droneAtRank 30 = .ok (.if_icmp .ge 91, 3) := by decide +kernel
theorem dX8_droneAtRank_33 : decode cX8_droneAtRank 33 = .ok (.aload_n 0, 1) := by decide +kernel
theorem dX8_droneAtRank_34 : decode cX8_droneAtRank 34 = .ok (.getfield 16, 3) := by decide +kernel
theorem dX8_droneAtRank_37 : decode cX8_droneAtRank 37 = .ok (.iload_n 2, 1) := by decide +kernel
theorem dX8_droneAtRank_38 : decode cX8_droneAtRank 38 = .ok (.iconst 2, 1) := by decide +kernel
theorem dX8_droneAtRank_39 : decode cX8_droneAtRank 39 = .ok (.invokestatic 64, 3) := by decide +kernel
theorem dX8_droneAtRank_42 : decode cX8_droneAtRank 42 = .ok (.iaload, 1) := by decide +kernel
theorem dX8_droneAtRank_43 : decode cX8_droneAtRank 43 = .ok (.aload_n 0, 1) := by decide +kernel
theorem dX8_droneAtRank_44 : decode cX8_droneAtRank 44 = .ok (.getfield 16, 3) := by decide +kernel
theorem dX8_droneAtRank_47 : decode cX8_droneAtRank 47 = .ok (.iload 4, 2) := by decide +kernel
theorem dX8_droneAtRank_49 : decode cX8_droneAtRank 49 = .ok (.iconst 2, 1) := by decide +kernel
theorem dX8_droneAtRank_50 : decode cX8_droneAtRank 50 = .ok (.invokestatic 64, 3) := by decide +kernel
theorem dX8_droneAtRank_53 : decode cX8_droneAtRank 53 = .ok (.iaload, 1) := by decide +kernel
theorem dX8_droneAtRank_54 : decode cX8_droneAtRank 54 = .ok (.isub, 1) := by decide +kernel
theorem dX8_droneAtRank_55 : decode cX8_droneAtRank 55 = .ok (.istore 5, 2) := by decide +kernel
theorem dX8_droneAtRank_57 : decode cX8_droneAtRank 57 = .ok (.iload 5, 2) := by decide +kernel
theorem dX8_droneAtRank_59 : decode cX8_droneAtRank 59 = .ok (.ifCond .eq 8, 3) := by decide +kernel
theorem dX8_droneAtRank_62 : decode cX8_droneAtRank 62 = .ok (.iload 5, 2) := by decide +kernel
theorem dX8_droneAtRank_64 : decode cX8_droneAtRank 64 = .ok (.goto 25, 3) := by decide +kernel
theorem dX8_droneAtRank_67 : decode cX8_droneAtRank 67 = .ok (.aload_n 0, 1) := by decide +kernel
theorem dX8_droneAtRank_68 : decode cX8_droneAtRank 68 = .ok (.getfield 16, 3) := by decide +kernel
theorem dX8_droneAtRank_71 : decode cX8_droneAtRank 71 = .ok (.iload 4, 2) := by decide +kernel
theorem dX8_droneAtRank_73 : decode cX8_droneAtRank 73 = .ok (.iconst 1, 1) := by decide +kernel
theorem dX8_droneAtRank_74 : decode cX8_droneAtRank 74 = .ok (.invokestatic 64, 3) := by decide +kernel
theorem dX8_droneAtRank_77 : decode cX8_droneAtRank 77 = .ok (.iaload, 1) := by decide +kernel
theorem dX8_droneAtRank_78 : decode cX8_droneAtRank 78 = .ok (.aload_n 0, 1) := by decide +kernel
theorem dX8_droneAtRank_79 : decode cX8_droneAtRank 79 = .ok (.getfield 16, 3) := by decide +kernel
theorem dX8_droneAtRank_82 : decode cX8_droneAtRank 82 = .ok (.iload_n 2, 1) := by decide +kernel
theorem dX8_droneAtRank_83 : decode cX8_droneAtRank 83 = .ok (.iconst 1, 1) := by decide +kernel
theorem dX8_droneAtRank_84 : decode cX8_droneAtRank 84 = .ok (.invokestatic 64, 3) := by decide +kernel
theorem dX8_droneAtRank_87 : decode cX8_droneAtRank 87 = .ok (.iaload, 1) := by decide +kernel
theorem dX8_droneAtRank_88 : decode cX8_droneAtRank 88 = .ok (.isub, 1) := by decide +kernel
theorem dX8_droneAtRank_89 : decode cX8_droneAtRank 89 = .ok (.istore 5, 2) := by decide +kernel
theorem dX8_droneAtRank_91 : decode cX8_droneAtRank 91 = .ok (.iload_n 3, 1) := by decide +kernel
theorem dX8_droneAtRank_92 : decode cX8_droneAtRank 92 = .ok (.iload 5, 2) := by decide +kernel
theorem dX8_droneAtRank_94 : decode cX8_droneAtRank 94 = .ok (.ifCond .gt 14, 3) := by decide +kernel
theorem dX8_droneAtRank_97 : decode cX8_droneAtRank 97 = .ok (.iload 5, 2) := by decide +kernel
theorem dX8_droneAtRank_99 : decode cX8_droneAtRank 99 = .ok (.ifCond .ne 13, 3) := by decide +kernel
theorem dX8_droneAtRank_102 : decode cX8_droneAtRank 102 = .ok (.iload 4, 2) := by decide +kernel
theorem dX8_droneAtRank_104 : decode cX8_droneAtRank 104 = .ok (.iload_n 2, 1) := by decide +kernel
theorem dX8_droneAtRank_105 : decode cX8_droneAtRank 105 = .ok (.if_icmp .ge 7, 3) := by decide +kernel
theorem dX8_droneAtRank_108 : decode cX8_droneAtRank 108 = .ok (.iconst 1, 1) := by decide +kernel
theorem dX8_droneAtRank_109 : decode cX8_droneAtRank 109 = .ok (.goto 4, 3) := by decide +kernel
theorem dX8_droneAtRank_112 : decode cX8_droneAtRank 112 = .ok (.iconst 0, 1) := by decide +kernel
theorem dX8_droneAtRank_113 : decode cX8_droneAtRank 113 = .ok (.iadd, 1) := by decide +kernel
theorem dX8_droneAtRank_114 : decode cX8_droneAtRank 114 = .ok (.istore_n 3, 1) := by decide +kernel
theorem dX8_droneAtRank_115 : decode cX8_droneAtRank 115 = .ok (.iinc 4 1, 3) := by decide +kernel
theorem dX8_droneAtRank_118 : decode cX8_droneAtRank 118 = .ok (.goto (-96), 3) := by decide +kernel
theorem dX8_droneAtRank_121 : decode cX8_droneAtRank 121 = .ok (.iload_n 3, 1) := by decide +kernel
theorem dX8_droneAtRank_122 : decode cX8_droneAtRank 122 = .ok (.iload_n 1, 1) := by decide +kernel
theorem dX8_droneAtRank_123 : decode cX8_droneAtRank 123 = .ok (.if_icmp .ne 5, 3) := by decide +kernel
theorem dX8_droneAtRank_126 : decode cX8_droneAtRank 126 = .ok (.iload_n 2, 1) := by decide +kernel
theorem dX8_droneAtRank_127 : decode cX8_droneAtRank 127 = .ok (.ireturn, 1) := by decide +kernel
theorem dX8_droneAtRank_128 : decode cX8_droneAtRank 128 = .ok (.iinc 2 1, 3) := by decide +kernel
theorem dX8_droneAtRank_131 : decode cX8_droneAtRank 131 = .ok (.goto (-124), 3) := by decide +kernel
theorem dX8_droneAtRank_134 : decode cX8_droneAtRank 134 = .ok (.aload_n 0, 1) := by decide +kernel
theorem dX8_droneAtRank_135 : decode cX8_droneAtRank 135 = .ok (.iconst 1, 1) := by decide +kernel
theorem dX8_droneAtRank_136 : decode cX8_droneAtRank 136 = .ok (.invokevirtual 76, 3) := by decide +kernel
theorem dX8_droneAtRank_139 : decode cX8_droneAtRank 139 = .ok (.ireturn, 1) := by decide +kernel
theorem dX8_batteryAfter_0 : decode cX8_batteryAfter 0 = .ok (.aload_n 0, 1) := by decide +kernel
theorem dX8_batteryAfter_1 : decode cX8_batteryAfter 1 = .ok (.aload_n 0, 1) := by decide +kernel
theorem dX8_batteryAfter_2 : decode cX8_batteryAfter 2 = .ok (.iload_n 1, 1) := by decide +kernel
theorem dX8_batteryAfter_3 : decode cX8_batteryAfter 3 = .ok (.invokevirtual 101, 3) := by decide +kernel
theorem dX8_batteryAfter_6 : decode cX8_batteryAfter 6 = .ok (.ifCond .ne 7, 3) := by decide +kernel
theorem dX8_batteryAfter_9 : decode cX8_batteryAfter 9 = .ok (.iconst 1, 1) := by decide +kernel
theorem dX8_batteryAfter_10 : decode cX8_batteryAfter 10 = .ok (.goto 18, 3) := by decide +kernel
theorem dX8_batteryAfter_13 : decode cX8_batteryAfter 13 = .ok (.iload_n 2, 1) := by decide +kernel
theorem dX8_batteryAfter_14 : decode cX8_batteryAfter 14 = .ok (.iconst 0, 1) := by decide +kernel
theorem dX8_batteryAfter_15 : decode cX8_batteryAfter 15 = .ok (.bipush 30, 2) := by decide +kernel
theorem dX8_batteryAfter_17 : decode cX8_batteryAfter 17 = .ok (.invokestatic 60, 3) := by decide +kernel
theorem dX8_batteryAfter_20 : decode cX8_batteryAfter 20 = .ok (.ifCond .eq 7, 3) := by decide +kernel
theorem dX8_batteryAfter_23 : decode cX8_batteryAfter 23 = .ok (.iconst 0, 1) := by decide +kernel
theorem dX8_batteryAfter_24 : decode cX8_batteryAfter 24 = .ok (.goto 4, 3) := by decide +kernel
theorem dX8_batteryAfter_27 : decode cX8_batteryAfter 27 = .ok (.iconst 2, 1) := by decide +kernel
theorem dX8_batteryAfter_28 : decode cX8_batteryAfter 28 = .ok (.putfield 50, 3) := by decide +kernel
theorem dX8_batteryAfter_31 : decode cX8_batteryAfter 31 = .ok (.aload_n 0, 1) := by decide +kernel
theorem dX8_batteryAfter_32 : decode cX8_batteryAfter 32 = .ok (.getfield 50, 3) := by decide +kernel
theorem dX8_batteryAfter_35 : decode cX8_batteryAfter 35 = .ok (.ifCond .eq 5, 3) := by decide +kernel
theorem dX8_batteryAfter_38 : decode cX8_batteryAfter 38 = .ok (.iconst 0, 1) := by decide +kernel
theorem dX8_batteryAfter_39 : decode cX8_batteryAfter 39 = .ok (.ireturn, 1) := by decide +kernel
theorem dX8_batteryAfter_40 : decode cX8_batteryAfter 40 = .ok (.aload_n 0, 1) := by decide +kernel
theorem dX8_batteryAfter_41 : decode cX8_batteryAfter 41 = .ok (.getfield 26, 3) := by decide +kernel
theorem dX8_batteryAfter_44 : decode cX8_batteryAfter 44 = .ok (.aload_n 0, 1) := by decide +kernel
theorem dX8_batteryAfter_45 : decode cX8_batteryAfter 45 = .ok (.getfield 16, 3) := by decide +kernel
theorem dX8_batteryAfter_48 : decode cX8_batteryAfter 48 = .ok (.invokestatic 53, 3) := by decide +kernel
theorem dX8_batteryAfter_51 : decode cX8_batteryAfter 51 = .ok (.iconst 0, 1) := by decide +kernel
theorem dX8_batteryAfter_52 : decode cX8_batteryAfter 52 = .ok (.istore_n 3, 1) := by decide +kernel
theorem dX8_batteryAfter_53 : decode cX8_batteryAfter 53 = .ok (.iconst 0, 1) := by decide +kernel
theorem dX8_batteryAfter_54 : decode cX8_batteryAfter 54 = .ok (.istore 4, 2) := by decide +kernel
theorem dX8_batteryAfter_56 : decode cX8_batteryAfter 56 = .ok (.iload 4, 2) := by decide +kernel
theorem dX8_batteryAfter_58 : decode cX8_batteryAfter 58 = .ok (.iload_n 2, 1) := by decide +kernel
theorem dX8_batteryAfter_59 : decode cX8_batteryAfter 59 = .ok (.if_icmp .ge 16, 3) := by decide +kernel
theorem dX8_batteryAfter_62 : decode cX8_batteryAfter 62 = .ok (.iload_n 3, 1) := by decide +kernel
theorem dX8_batteryAfter_63 : decode cX8_batteryAfter 63 = .ok (.aload_n 0, 1) := by decide +kernel
theorem dX8_batteryAfter_64 : decode cX8_batteryAfter 64 = .ok (.invokevirtual 201, 3) := by decide +kernel
theorem dX8_batteryAfter_67 : decode cX8_batteryAfter 67 = .ok (.iadd, 1) := by decide +kernel
theorem dX8_batteryAfter_68 : decode cX8_batteryAfter 68 = .ok (.istore_n 3, 1) := by decide +kernel
theorem dX8_batteryAfter_69 : decode cX8_batteryAfter 69 = .ok (.iinc 4 1, 3) := by decide +kernel
theorem dX8_batteryAfter_72 : decode cX8_batteryAfter 72 = .ok (.goto (-16), 3) := by decide +kernel
theorem dX8_batteryAfter_75 : decode cX8_batteryAfter 75 = .ok (.aload_n 0, 1) := by decide +kernel
theorem dX8_batteryAfter_76 : decode cX8_batteryAfter 76 = .ok (.getfield 16, 3) := by decide +kernel
theorem dX8_batteryAfter_79 : decode cX8_batteryAfter 79 = .ok (.iload_n 1, 1) := by decide +kernel
theorem dX8_batteryAfter_80 : decode cX8_batteryAfter 80 = .ok (.iconst 2, 1) := by decide +kernel
theorem dX8_batteryAfter_81 : decode cX8_batteryAfter 81 = .ok (.invokestatic 64, 3) := by decide +kernel
theorem dX8_batteryAfter_84 : decode cX8_batteryAfter 84 = .ok (.iaload, 1) := by decide +kernel
theorem dX8_batteryAfter_85 : decode cX8_batteryAfter 85 = .ok (.istore 4, 2) := by decide +kernel
theorem dX8_batteryAfter_87 : decode cX8_batteryAfter 87 = .ok (.aload_n 0, 1) := by decide +kernel
theorem dX8_batteryAfter_88 : decode cX8_batteryAfter 88 = .ok (.getfield 16, 3) := by decide +kernel
theorem dX8_batteryAfter_91 : decode cX8_batteryAfter 91 = .ok (.aload_n 0, 1) := by decide +kernel
theorem dX8_batteryAfter_92 : decode cX8_batteryAfter 92 = .ok (.getfield 26, 3) := by decide +kernel
theorem dX8_batteryAfter_95 : decode cX8_batteryAfter 95 = .ok (.invokestatic 53, 3) := by decide +kernel
theorem dX8_batteryAfter_98 : decode cX8_batteryAfter 98 = .ok (.iload 4, 2) := by decide +kernel
theorem dX8_batteryAfter_100 : decode cX8_batteryAfter 100 = .ok (.ireturn, 1) := by decide +kernel
theorem dX8_addsCue_0 : decode cX8_addsCue 0 = .ok (.aload_n 0, 1) := by decide +kernel
theorem dX8_addsCue_1 : decode cX8_addsCue 1 = .ok (.iload_n 1, 1) := by decide +kernel
theorem dX8_addsCue_2 : decode cX8_addsCue 2 = .ok (.invokevirtual 101, 3) := by decide +kernel
theorem dX8_addsCue_5 : decode cX8_addsCue 5 = .ok (.ifCond .ne 9, 3) := by decide +kernel
theorem dX8_addsCue_8 : decode cX8_addsCue 8 = .ok (.aload_n 0, 1) := by decide +kernel
theorem dX8_addsCue_9 : decode cX8_addsCue 9 = .ok (.iconst 1, 1) := by decide +kernel
theorem dX8_addsCue_10 : decode cX8_addsCue 10 = .ok (.invokevirtual 76, 3) := by decide +kernel
theorem dX8_addsCue_13 : decode cX8_addsCue 13 = .ok (.ireturn, 1) := by decide +kernel
theorem dX8_addsCue_14 : decode cX8_addsCue 14 = .ok (.iload_n 2, 1) := by decide +kernel
theorem dX8_addsCue_15 : decode cX8_addsCue 15 = .ok (.aload_n 0, 1) := by decide +kernel
theorem dX8_addsCue_16 : decode cX8_addsCue 16 = .ok (.getfield 16, 3) := by decide +kernel
theorem dX8_addsCue_19 : decode cX8_addsCue 19 = .ok (.iconst 3, 1) := by decide +kernel
theorem dX8_addsCue_20 : decode cX8_addsCue 20 = .ok (.iaload, 1) := by decide +kernel
theorem dX8_addsCue_21 : decode cX8_addsCue 21 = .ok (.if_icmp .le 20, 3) := by decide +kernel
theorem dX8_addsCue_24 : decode cX8_addsCue 24 = .ok (.iload_n 2, 1) := by decide +kernel
theorem dX8_addsCue_25 : decode cX8_addsCue 25 = .ok (.sipush 999, 3) := by decide +kernel
theorem dX8_addsCue_28 : decode cX8_addsCue 28 = .ok (.if_icmp .gt 13, 3) := by decide +kernel
theorem dX8_addsCue_31 : decode cX8_addsCue 31 = .ok (.iload_n 3, 1) := by decide +kernel
theorem dX8_addsCue_32 : decode cX8_addsCue 32 = .ok (.iconst 0, 1) := by decide +kernel
theorem dX8_addsCue_33 : decode cX8_addsCue 33 = .ok (.bipush 7, 2) := by decide +kernel
theorem dX8_addsCue_35 : decode cX8_addsCue 35 = .ok (.invokestatic 60, 3) := by decide +kernel
theorem dX8_addsCue_38 : decode cX8_addsCue 38 = .ok (.ifCond .ne 9, 3) := by decide +kernel
theorem dX8_addsCue_41 : decode cX8_addsCue 41 = .ok (.aload_n 0, 1) := by decide +kernel
theorem dX8_addsCue_42 : decode cX8_addsCue 42 = .ok (.iconst 2, 1) := by decide +kernel
theorem dX8_addsCue_43 : decode cX8_addsCue 43 = .ok (.invokevirtual 76, 3) := by decide +kernel
theorem dX8_addsCue_46 : decode cX8_addsCue 46 = .ok (.ireturn, 1) := by decide +kernel
theorem dX8_addsCue_47 : decode cX8_addsCue 47 = .ok (.aload_n 0, 1) := by decide +kernel
theorem dX8_addsCue_48 : decode cX8_addsCue 48 = .ok (.getfield 16, 3) := by decide +kernel
theorem dX8_addsCue_51 : decode cX8_addsCue 51 = .ok (.bipush 8, 2) := by decide +kernel
theorem dX8_addsCue_53 : decode cX8_addsCue 53 = .ok (.iaload, 1) := by decide +kernel
theorem dX8_addsCue_54 : decode cX8_addsCue 54 = .ok (.bipush 12, 2) := by decide +kernel
theorem dX8_addsCue_56 : decode cX8_addsCue 56 = .ok (.if_icmp .ne 9, 3) := by decide +kernel
theorem dX8_addsCue_59 : decode cX8_addsCue 59 = .ok (.aload_n 0, 1) := by decide +kernel
theorem dX8_addsCue_60 : decode cX8_addsCue 60 = .ok (.iconst 3, 1) := by decide +kernel
theorem dX8_addsCue_61 : decode cX8_addsCue 61 = .ok (.invokevirtual 76, 3) := by decide +kernel
theorem dX8_addsCue_64 : decode cX8_addsCue 64 = .ok (.ireturn, 1) := by decide +kernel
theorem dX8_addsCue_65 : decode cX8_addsCue 65 = .ok (.bipush 81, 2) := by decide +kernel
theorem dX8_addsCue_67 : decode cX8_addsCue 67 = .ok (.iconst 3, 1) := by decide +kernel
theorem dX8_addsCue_68 : decode cX8_addsCue 68 = .ok (.aload_n 0, 1) := by decide +kernel
theorem dX8_addsCue_69 : decode cX8_addsCue 69 = .ok (.getfield 16, 3) := by decide +kernel
theorem dX8_addsCue_72 : decode cX8_addsCue 72 = .ok (.bipush 8, 2) := by decide +kernel
theorem dX8_addsCue_74 : decode cX8_addsCue 74 = .ok (.iaload, 1) := by decide +kernel
theorem dX8_addsCue_75 : decode cX8_addsCue 75 = .ok (.imul, 1) := by decide +kernel
theorem dX8_addsCue_76 : decode cX8_addsCue 76 = .ok (.iadd, 1) := by decide +kernel
theorem dX8_addsCue_77 : decode cX8_addsCue 77 = .ok (.istore 4, 2) := by decide +kernel
theorem dX8_addsCue_79 : decode cX8_addsCue 79 = .ok (.aload_n 0, 1) := by decide +kernel
theorem dX8_addsCue_80 : decode cX8_addsCue 80 = .ok (.getfield 16, 3) := by decide +kernel
theorem dX8_addsCue_83 : decode cX8_addsCue 83 = .ok (.iload 4, 2) := by decide +kernel
theorem dX8_addsCue_85 : decode cX8_addsCue 85 = .ok (.iload_n 1, 1) := by decide +kernel
theorem dX8_addsCue_86 : decode cX8_addsCue 86 = .ok (.iastore, 1) := by decide +kernel
theorem dX8_addsCue_87 : decode cX8_addsCue 87 = .ok (.aload_n 0, 1) := by decide +kernel
theorem dX8_addsCue_88 : decode cX8_addsCue 88 = .ok (.getfield 16, 3) := by decide +kernel
theorem dX8_addsCue_91 : decode cX8_addsCue 91 = .ok (.iload 4, 2) := by decide +kernel
theorem dX8_addsCue_93 : decode cX8_addsCue 93 = .ok (.iconst 1, 1) := by decide +kernel
theorem dX8_addsCue_94 : decode cX8_addsCue 94 = .ok (.iadd, 1) := by decide +kernel
theorem dX8_addsCue_95 : decode cX8_addsCue 95 = .ok (.iload_n 2, 1) := by decide +kernel
theorem dX8_addsCue_96 : decode cX8_addsCue 96 = .ok (.iastore, 1) := by decide +kernel
theorem dX8_addsCue_97 : decode cX8_addsCue 97 = .ok (.aload_n 0, 1) := by decide +kernel
theorem dX8_addsCue_98 : decode cX8_addsCue 98 = .ok (.getfield 16, 3) := by decide +kernel
theorem dX8_addsCue_101 : decode cX8_addsCue 101 = .ok (.iload 4, 2) := by decide +kernel
theorem dX8_addsCue_103 : decode cX8_addsCue 103 = .ok (.iconst 2, 1) := by decide +kernel
theorem dX8_addsCue_104 : decode cX8_addsCue 104 = .ok (.iadd, 1) := by decide +kernel
theorem dX8_addsCue_105 : decode cX8_addsCue 105 = .ok (.iload_n 3, 1) := by decide +kernel
theorem dX8_addsCue_106 : decode cX8_addsCue 106 = .ok (.iastore, 1) := by decide +kernel
theorem dX8_addsCue_107 : decode cX8_addsCue 107 = .ok (.aload_n 0, 1) := by decide +kernel
theorem dX8_addsCue_108 : decode cX8_addsCue 108 = .ok (.getfield 16, 3) := by decide +kernel
theorem dX8_addsCue_111 : decode cX8_addsCue 111 = .ok (.bipush 8, 2) := by decide +kernel
theorem dX8_addsCue_113 : decode cX8_addsCue 113 = .ok (.dup2, 1) := by decide +kernel
theorem dX8_addsCue_114 : decode cX8_addsCue 114 = .ok (.iaload, 1) := by decide +kernel
theorem dX8_addsCue_115 : decode cX8_addsCue 115 = .ok (.iconst 1, 1) := by decide +kernel
theorem dX8_addsCue_116 : decode cX8_addsCue 116 = .ok (.iadd, 1) := by decide +kernel
theorem dX8_addsCue_117 : decode cX8_addsCue 117 = .ok (.iastore, 1) := by decide +kernel
theorem dX8_addsCue_118 : decode cX8_addsCue 118 = .ok (.aload_n 0, 1) := by decide +kernel
theorem dX8_addsCue_119 : decode cX8_addsCue 119 = .ok (.getfield 16, 3) := by decide +kernel
theorem dX8_addsCue_122 : decode cX8_addsCue 122 = .ok (.bipush 8, 2) := by decide +kernel
theorem dX8_addsCue_124 : decode cX8_addsCue 124 = .ok (.iaload, 1) := by decide +kernel
theorem dX8_addsCue_125 : decode cX8_addsCue 125 = .ok (.ireturn, 1) := by decide +kernel
theorem dX8_cueColour_0 : decode cX8_cueColour 0 = .ok (.aload_n 0, 1) := by decide +kernel
theorem dX8_cueColour_1 : decode cX8_cueColour 1 = .ok (.invokevirtual 86, 3) := by decide +kernel
theorem dX8_cueColour_4 : decode cX8_cueColour 4 = .ok (.aload_n 0, 1) := by decide +kernel
theorem dX8_cueColour_5 : decode cX8_cueColour 5 = .ok (.aload_n 0, 1) := by decide +kernel
theorem dX8_cueColour_6 : decode cX8_cueColour 6 = .ok (.iload_n 1, 1) := by decide +kernel
theorem dX8_cueColour_7 : decode cX8_cueColour 7 = .ok (.iload_n 2, 1) := by decide +kernel
theorem dX8_cueColour_8 : decode cX8_cueColour 8 = .ok (.iload_n 3, 1) := by decide +kernel
theorem dX8_cueColour_9 : decode cX8_cueColour 9 = .ok (.invokevirtual 210, 3) := by decide +kernel
theorem dX8_cueColour_12 : decode cX8_cueColour 12 = .ok (.invokevirtual 92, 3) := by decide +kernel
theorem dX8_cueColour_15 : decode cX8_cueColour 15 = .ok (.ireturn, 1) := by decide +kernel
theorem dX8_cueCount_0 : decode cX8_cueCount 0 = .ok (.aload_n 0, 1) := by decide +kernel
theorem dX8_cueCount_1 : decode cX8_cueCount 1 = .ok (.iconst 0, 1) := by decide +kernel
theorem dX8_cueCount_2 : decode cX8_cueCount 2 = .ok (.putfield 50, 3) := by decide +kernel
theorem dX8_cueCount_5 : decode cX8_cueCount 5 = .ok (.aload_n 0, 1) := by decide +kernel
theorem dX8_cueCount_6 : decode cX8_cueCount 6 = .ok (.getfield 16, 3) := by decide +kernel
theorem dX8_cueCount_9 : decode cX8_cueCount 9 = .ok (.bipush 8, 2) := by decide +kernel
theorem dX8_cueCount_11 : decode cX8_cueCount 11 = .ok (.iaload, 1) := by decide +kernel
theorem dX8_cueCount_12 : decode cX8_cueCount 12 = .ok (.ireturn, 1) := by decide +kernel
theorem dX8_nextCueTime_0 : decode cX8_nextCueTime 0 = .ok (.aload_n 0, 1) := by decide +kernel
theorem dX8_nextCueTime_1 : decode cX8_nextCueTime 1 = .ok (.aload_n 0, 1) := by decide +kernel
theorem dX8_nextCueTime_2 : decode cX8_nextCueTime 2 = .ok (.getfield 16, 3) := by decide +kernel
theorem dX8_nextCueTime_5 : decode cX8_nextCueTime 5 = .ok (.bipush 8, 2) := by decide +kernel
theorem dX8_nextCueTime_7 : decode cX8_nextCueTime 7 = .ok (.iaload, 1) := by decide +kernel
theorem dX8_nextCueTime_8 : decode cX8_nextCueTime 8 = .ok (.ifCond .ne 7, 3) := by decide +kernel
theorem dX8_nextCueTime_11 : decode cX8_nextCueTime 11 = .ok (.iconst 1, 1) := by decide +kernel
theorem dX8_nextCueTime_12 : decode cX8_nextCueTime 12 = .ok (.goto 4, 3) := by decide +kernel
theorem dX8_nextCueTime_15 : decode cX8_nextCueTime 15 = .ok (.iconst 0, 1) := by decide +kernel
theorem dX8_nextCueTime_16 : decode cX8_nextCueTime 16 = .ok (.putfield 50, 3) := by decide +kernel
theorem dX8_nextCueTime_19 : decode cX8_nextCueTime 19 = .ok (.aload_n 0, 1) := by decide +kernel
theorem dX8_nextCueTime_20 : decode cX8_nextCueTime 20 = .ok (.getfield 16, 3) := by decide +kernel
theorem dX8_nextCueTime_23 : decode cX8_nextCueTime 23 = .ok (.bipush 82, 2) := by decide +kernel
theorem dX8_nextCueTime_25 : decode cX8_nextCueTime 25 = .ok (.iaload, 1) := by decide +kernel
theorem dX8_nextCueTime_26 : decode cX8_nextCueTime 26 = .ok (.istore_n 1, 1) := by decide +kernel
theorem dX8_nextCueTime_27 : decode cX8_nextCueTime 27 = .ok (.iconst 1, 1) := by decide +kernel
theorem dX8_nextCueTime_28 : decode cX8_nextCueTime 28 = .ok (.istore_n 2, 1) := by decide +kernel
theorem dX8_nextCueTime_29 : decode cX8_nextCueTime 29 = .ok (.iload_n 2, 1) := by decide +kernel
theorem dX8_nextCueTime_30 : decode cX8_nextCueTime 30 = .ok (.aload_n 0, 1) := by decide +kernel
theorem dX8_nextCueTime_31 : decode cX8_nextCueTime 31 = .ok (.getfield 16, 3) := by decide +kernel
theorem dX8_nextCueTime_34 : decode cX8_nextCueTime 34 = .ok (.bipush 8, 2) := by decide +kernel
theorem dX8_nextCueTime_36 : decode cX8_nextCueTime 36 = .ok (.iaload, 1) := by decide +kernel
theorem dX8_nextCueTime_37 : decode cX8_nextCueTime 37 = .ok (.if_icmp .ge 44, 3) := by decide +kernel
theorem dX8_nextCueTime_40 : decode cX8_nextCueTime 40 = .ok (.aload_n 0, 1) := by decide +kernel
theorem dX8_nextCueTime_41 : decode cX8_nextCueTime 41 = .ok (.getfield 16, 3) := by decide +kernel
theorem dX8_nextCueTime_44 : decode cX8_nextCueTime 44 = .ok (.bipush 81, 2) := by decide +kernel
theorem dX8_nextCueTime_46 : decode cX8_nextCueTime 46 = .ok (.iconst 3, 1) := by decide +kernel
theorem dX8_nextCueTime_47 : decode cX8_nextCueTime 47 = .ok (.iload_n 2, 1) := by decide +kernel
theorem dX8_nextCueTime_48 : decode cX8_nextCueTime 48 = .ok (.imul, 1) := by decide +kernel
theorem dX8_nextCueTime_49 : decode cX8_nextCueTime 49 = .ok (.iadd, 1) := by decide +kernel
theorem dX8_nextCueTime_50 : decode cX8_nextCueTime 50 = .ok (.iconst 1, 1) := by decide +kernel
theorem dX8_nextCueTime_51 : decode cX8_nextCueTime 51 = .ok (.iadd, 1) := by decide +kernel
theorem dX8_nextCueTime_52 : decode cX8_nextCueTime 52 = .ok (.iaload, 1) := by decide +kernel
theorem dX8_nextCueTime_53 : decode cX8_nextCueTime 53 = .ok (.iload_n 1, 1) := by decide +kernel
theorem dX8_nextCueTime_54 : decode cX8_nextCueTime 54 = .ok (.if_icmp .ge 19, 3) := by decide +kernel
theorem dX8_nextCueTime_57 : decode cX8_nextCueTime 57 = .ok (.aload_n 0, 1) := by decide +kernel
theorem dX8_nextCueTime_58 : decode cX8_nextCueTime 58 = .ok (.getfield 16, 3) := by decide +kernel
theorem dX8_nextCueTime_61 : decode cX8_nextCueTime 61 = .ok (.bipush 81, 2) := by decide +kernel
theorem dX8_nextCueTime_63 : decode cX8_nextCueTime 63 = .ok (.iconst 3, 1) := by decide +kernel
theorem dX8_nextCueTime_64 : decode cX8_nextCueTime 64 = .ok (.iload_n 2, 1) := by decide +kernel
theorem dX8_nextCueTime_65 : decode cX8_nextCueTime 65 = .ok (.imul, 1) := by decide +kernel
theorem dX8_nextCueTime_66 : decode cX8_nextCueTime 66 = .ok (.iadd, 1) := by decide +kernel
theorem dX8_nextCueTime_67 : decode cX8_nextCueTime 67 = .ok (.iconst 1, 1) := by decide +kernel
theorem dX8_nextCueTime_68 : decode cX8_nextCueTime 68 = .ok (.iadd, 1) := by decide +kernel
theorem dX8_nextCueTime_69 : decode cX8_nextCueTime 69 = .ok (.iaload, 1) := by decide +kernel
theorem dX8_nextCueTime_70 : decode cX8_nextCueTime 70 = .ok (.goto 4, 3) := by decide +kernel
theorem dX8_nextCueTime_73 : decode cX8_nextCueTime 73 = .ok (.iload_n 1, 1) := by decide +kernel
theorem dX8_nextCueTime_74 : decode cX8_nextCueTime 74 = .ok (.istore_n 1, 1) := by decide +kernel
theorem dX8_nextCueTime_75 : decode cX8_nextCueTime 75 = .ok (.iinc 2 1, 3) := by decide +kernel
theorem dX8_nextCueTime_78 : decode cX8_nextCueTime 78 = .ok (.goto (-49), 3) := by decide +kernel
theorem dX8_nextCueTime_81 : decode cX8_nextCueTime 81 = .ok (.aload_n 0, 1) := by decide +kernel
theorem dX8_nextCueTime_82 : decode cX8_nextCueTime 82 = .ok (.getfield 50, 3) := by decide +kernel
theorem dX8_nextCueTime_85 : decode cX8_nextCueTime 85 = .ok (.ifCond .ne 7, 3) := by decide +kernel
theorem dX8_nextCueTime_88 : decode cX8_nextCueTime 88 = .ok (.iload_n 1, 1) := by decide +kernel
theorem dX8_nextCueTime_89 : decode cX8_nextCueTime 89 = .ok (.goto 4, 3) := by decide +kernel
theorem dX8_nextCueTime_92 : decode cX8_nextCueTime 92 = .ok (.iconst 0, 1) := by decide +kernel
theorem dX8_nextCueTime_93 : decode cX8_nextCueTime 93 = .ok (.ireturn, 1) := by decide +kernel
theorem dX8_movedTotal_0 : decode cX8_movedTotal 0 = .ok (.aload_n 0, 1) := by decide +kernel
theorem dX8_movedTotal_1 : decode cX8_movedTotal 1 = .ok (.iconst 0, 1) := by decide +kernel
theorem dX8_movedTotal_2 : decode cX8_movedTotal 2 = .ok (.putfield 50, 3) := by decide +kernel
theorem dX8_movedTotal_5 : decode cX8_movedTotal 5 = .ok (.aload_n 0, 1) := by decide +kernel
theorem dX8_movedTotal_6 : decode cX8_movedTotal 6 = .ok (.getfield 16, 3) := by decide +kernel
theorem dX8_movedTotal_9 : decode cX8_movedTotal 9 = .ok (.iconst 4, 1) := by decide +kernel
theorem dX8_movedTotal_10 : decode cX8_movedTotal 10 = .ok (.iaload, 1) := by decide +kernel
theorem dX8_movedTotal_11 : decode cX8_movedTotal 11 = .ok (.ireturn, 1) := by decide +kernel
theorem dX8_blockedTotal_0 : decode cX8_blockedTotal 0 = .ok (.aload_n 0, 1) := by decide +kernel
theorem dX8_blockedTotal_1 : decode cX8_blockedTotal 1 = .ok (.iconst 0, 1) := by decide +kernel
theorem dX8_blockedTotal_2 : decode cX8_blockedTotal 2 = .ok (.putfield 50, 3) := by decide +kernel
theorem dX8_blockedTotal_5 : decode cX8_blockedTotal 5 = .ok (.aload_n 0, 1) := by decide +kernel
theorem dX8_blockedTotal_6 : decode cX8_blockedTotal 6 = .ok (.getfield 16, 3) := by decide +kernel
theorem dX8_blockedTotal_9 : decode cX8_blockedTotal 9 = .ok (.iconst 5, 1) := by decide +kernel
theorem dX8_blockedTotal_10 : decode cX8_blockedTotal 10 = .ok (.iaload, 1) := by decide +kernel
theorem dX8_blockedTotal_11 : decode cX8_blockedTotal 11 = .ok (.ireturn, 1) := by decide +kernel
theorem dX8_emergencyTotal_0 : decode cX8_emergencyTotal 0 = .ok (.aload_n 0, 1) := by decide +kernel
theorem dX8_emergencyTotal_1 : decode cX8_emergencyTotal 1 = .ok (.iconst 0, 1) := by decide +kernel
theorem dX8_emergencyTotal_2 : decode cX8_emergencyTotal 2 = .ok (.putfield 50, 3) := by decide +kernel
theorem dX8_emergencyTotal_5 : decode cX8_emergencyTotal 5 = .ok (.aload_n 0, 1) := by decide +kernel
theorem dX8_emergencyTotal_6 : decode cX8_emergencyTotal 6 = .ok (.getfield 16, 3) := by decide +kernel
theorem dX8_emergencyTotal_9 : decode cX8_emergencyTotal 9 = .ok (.bipush 6, 2) := by decide +kernel
theorem dX8_emergencyTotal_11 : decode cX8_emergencyTotal 11 = .ok (.iaload, 1) := by decide +kernel
theorem dX8_emergencyTotal_12 : decode cX8_emergencyTotal 12 = .ok (.ireturn, 1) := by decide +kernel
theorem dX8_forcedTotal_0 : decode cX8_forcedTotal 0 = .ok (.aload_n 0, 1) := by decide +kernel
theorem dX8_forcedTotal_1 : decode cX8_forcedTotal 1 = .ok (.iconst 0, 1) := by decide +kernel
theorem dX8_forcedTotal_2 : decode cX8_forcedTotal 2 = .ok (.putfield 50, 3) := by decide +kernel
theorem dX8_forcedTotal_5 : decode cX8_forcedTotal 5 = .ok (.aload_n 0, 1) := by decide +kernel
theorem dX8_forcedTotal_6 : decode cX8_forcedTotal 6 = .ok (.getfield 16, 3) := by decide +kernel
theorem dX8_forcedTotal_9 : decode cX8_forcedTotal 9 = .ok (.bipush 7, 2) := by decide +kernel
theorem dX8_forcedTotal_11 : decode cX8_forcedTotal 11 = .ok (.iaload, 1) := by decide +kernel
theorem dX8_forcedTotal_12 : decode cX8_forcedTotal 12 = .ok (.ireturn, 1) := by decide +kernel
theorem dX8_append_0 : decode cX8_append 0 = .ok (.aload_n 0, 1) := by decide +kernel
theorem dX8_append_1 : decode cX8_append 1 = .ok (.iload_n 1, 1) := by decide +kernel
theorem dX8_append_2 : decode cX8_append 2 = .ok (.bipush 32, 2) := by decide +kernel
theorem dX8_append_4 : decode cX8_append 4 = .ok (.bipush 126, 2) := by decide +kernel
theorem dX8_append_6 : decode cX8_append 6 = .ok (.invokestatic 60, 3) := by decide +kernel
theorem dX8_append_9 : decode cX8_append 9 = .ok (.ifCond .ne 7, 3) := by decide +kernel
theorem dX8_append_12 : decode cX8_append 12 = .ok (.iconst 1, 1) := by decide +kernel
theorem dX8_append_13 : decode cX8_append 13 = .ok (.goto 17, 3) := by decide +kernel
theorem dX8_append_16 : decode cX8_append 16 = .ok (.aload_n 0, 1) := by decide +kernel
theorem dX8_append_17 : decode cX8_append 17 = .ok (.getfield 214, 3) := by decide +kernel
theorem dX8_append_20 : decode cX8_append 20 = .ok (.bipush 60, 2) := by decide +kernel
theorem dX8_append_22 : decode cX8_append 22 = .ok (.if_icmp .ne 7, 3) := by decide +kernel
theorem dX8_append_25 : decode cX8_append 25 = .ok (.iconst 2, 1) := by decide +kernel
theorem dX8_append_26 : decode cX8_append 26 = .ok (.goto 4, 3) := by decide +kernel
theorem dX8_append_29 : decode cX8_append 29 = .ok (.iconst 0, 1) := by decide +kernel
theorem dX8_append_30 : decode cX8_append 30 = .ok (.putfield 50, 3) := by decide +kernel
theorem dX8_append_33 : decode cX8_append 33 = .ok (.aload_n 0, 1) := by decide +kernel
theorem dX8_append_34 : decode cX8_append 34 = .ok (.getfield 50, 3) := by decide +kernel
theorem dX8_append_37 : decode cX8_append 37 = .ok (.ifCond .eq 5, 3) := by decide +kernel
theorem dX8_append_40 : decode cX8_append 40 = .ok (.iconst 0, 1) := by decide +kernel
theorem dX8_append_41 : decode cX8_append 41 = .ok (.ireturn, 1) := by decide +kernel
theorem dX8_append_42 : decode cX8_append 42 = .ok (.aload_n 0, 1) := by decide +kernel
theorem dX8_append_43 : decode cX8_append 43 = .ok (.getfield 35, 3) := by decide +kernel
theorem dX8_append_46 : decode cX8_append 46 = .ok (.aload_n 0, 1) := by decide +kernel
theorem dX8_append_47 : decode cX8_append 47 = .ok (.getfield 214, 3) := by decide +kernel
theorem dX8_append_50 : decode cX8_append 50 = .ok (.iload_n 1, 1) := by decide +kernel
theorem dX8_append_51 : decode cX8_append 51 = .ok (.iastore, 1) := by decide +kernel
theorem dX8_append_52 : decode cX8_append 52 = .ok (.aload_n 0, 1) := by decide +kernel
theorem dX8_append_53 : decode cX8_append 53 = .ok (.dup, 1) := by decide +kernel
theorem dX8_append_54 : decode cX8_append 54 = .ok (.getfield 214, 3) := by decide +kernel
theorem dX8_append_57 : decode cX8_append 57 = .ok (.iconst 1, 1) := by decide +kernel
theorem dX8_append_58 : decode cX8_append 58 = .ok (.iadd, 1) := by decide +kernel
theorem dX8_append_59 : decode cX8_append 59 = .ok (.putfield 214, 3) := by decide +kernel
theorem dX8_append_62 : decode cX8_append 62 = .ok (.aload_n 0, 1) := by decide +kernel
theorem dX8_append_63 : decode cX8_append 63 = .ok (.getfield 214, 3) := by decide +kernel
theorem dX8_append_66 : decode cX8_append 66 = .ok (.ireturn, 1) := by decide +kernel
theorem dX8_sign_0 : decode cX8_sign 0 = .ok (.aload_n 0, 1) := by decide +kernel
theorem dX8_sign_1 : decode cX8_sign 1 = .ok (.getfield 217, 3) := by decide +kernel
theorem dX8_sign_4 : decode cX8_sign 4 = .ok (.aload_n 0, 1) := by decide +kernel
theorem dX8_sign_5 : decode cX8_sign 5 = .ok (.getfield 220, 3) := by decide +kernel
theorem dX8_sign_8 : decode cX8_sign 8 = .ok (.if_icmp .ge 15, 3) := by decide +kernel
theorem dX8_sign_11 : decode cX8_sign 11 = .ok (.aload_n 0, 1) := by decide +kernel
theorem dX8_sign_12 : decode cX8_sign 12 = .ok (.getfield 35, 3) := by decide +kernel
theorem dX8_sign_15 : decode cX8_sign 15 = .ok (.aload_n 0, 1) := by decide +kernel
theorem dX8_sign_16 : decode cX8_sign 16 = .ok (.getfield 217, 3) := by decide +kernel
theorem dX8_sign_19 : decode cX8_sign 19 = .ok (.iaload, 1) := by decide +kernel
theorem dX8_sign_20 : decode cX8_sign 20 = .ok (.goto 4, 3) := by decide +kernel
theorem dX8_sign_23 : decode cX8_sign 23 = .ok (.iconst (-1), 1) := by decide +kernel
theorem dX8_sign_24 : decode cX8_sign 24 = .ok (.ireturn, 1) := by decide +kernel
theorem dX8_mark_0 : decode cX8_mark 0 = .ok (.aload_n 0, 1) := by decide +kernel
theorem dX8_mark_1 : decode cX8_mark 1 = .ok (.getfield 223, 3) := by decide +kernel
theorem dX8_mark_4 : decode cX8_mark 4 = .ok (.ifCond .eq 4, 3) := by decide +kernel
theorem dX8_mark_7 : decode cX8_mark 7 = .ok (.return_, 1) := by decide +kernel
theorem dX8_mark_8 : decode cX8_mark 8 = .ok (.aload_n 0, 1) := by decide +kernel
theorem dX8_mark_9 : decode cX8_mark 9 = .ok (.aload_n 0, 1) := by decide +kernel
theorem dX8_mark_10 : decode cX8_mark 10 = .ok (.invokevirtual 227, 3) := by decide +kernel
theorem dX8_mark_13 : decode cX8_mark 13 = .ok (.iload_n 1, 1) := by decide +kernel
theorem dX8_mark_14 : decode cX8_mark 14 = .ok (.if_icmp .eq 7, 3) := by decide +kernel
theorem dX8_mark_17 : decode cX8_mark 17 = .ok (.iconst 1, 1) := by decide +kernel
theorem dX8_mark_18 : decode cX8_mark 18 = .ok (.goto 4, 3) := by decide +kernel
theorem dX8_mark_21 : decode cX8_mark 21 = .ok (.iconst 0, 1) := by decide +kernel
theorem dX8_mark_22 : decode cX8_mark 22 = .ok (.putfield 223, 3) := by decide +kernel
theorem dX8_mark_25 : decode cX8_mark 25 = .ok (.aload_n 0, 1) := by decide +kernel
theorem dX8_mark_26 : decode cX8_mark 26 = .ok (.dup, 1) := by decide +kernel
theorem dX8_mark_27 : decode cX8_mark 27 = .ok (.getfield 217, 3) := by decide +kernel
theorem dX8_mark_30 : decode cX8_mark 30 = .ok (.aload_n 0, 1) := by decide +kernel
theorem dX8_mark_31 : decode cX8_mark 31 = .ok (.getfield 223, 3) := by decide +kernel
theorem dX8_mark_34 : decode cX8_mark 34 = .ok (.ifCond .eq 7, 3) := by decide +kernel
theorem dX8_mark_37 : decode cX8_mark 37 = .ok (.iconst 0, 1) := by decide +kernel
theorem dX8_mark_38 : decode cX8_mark 38 = .ok (.goto 4, 3) := by decide +kernel
theorem dX8_mark_41 : decode cX8_mark 41 = .ok (.iconst 1, 1) := by decide +kernel
theorem dX8_mark_42 : decode cX8_mark 42 = .ok (.iadd, 1) := by decide +kernel
theorem dX8_mark_43 : decode cX8_mark 43 = .ok (.putfield 217, 3) := by decide +kernel
theorem dX8_mark_46 : decode cX8_mark 46 = .ok (.return_, 1) := by decide +kernel
theorem dX8_digits_0 : decode cX8_digits 0 = .ok (.iconst 0, 1) := by decide +kernel
theorem dX8_digits_1 : decode cX8_digits 1 = .ok (.istore_n 2, 1) := by decide +kernel
theorem dX8_digits_2 : decode cX8_digits 2 = .ok (.iconst 0, 1) := by decide +kernel
theorem dX8_digits_3 : decode cX8_digits 3 = .ok (.istore_n 3, 1) := by decide +kernel
theorem dX8_digits_4 : decode cX8_digits 4 = .ok (.aload_n 0, 1) := by decide +kernel
theorem dX8_digits_5 : decode cX8_digits 5 = .ok (.getfield 223, 3) := by decide +kernel
theorem dX8_digits_8 : decode cX8_digits 8 = .ok (.ifCond .ne 51, 3) := by decide +kernel
theorem dX8_digits_11 : decode cX8_digits 11 = .ok (.iload_n 3, 1) := by decide +kernel
theorem dX8_digits_12 : decode cX8_digits 12 = .ok (.iload_n 1, 1) := by decide +kernel
theorem dX8_digits_13 : decode cX8_digits 13 = .ok (.if_icmp .ge 46, 3) := by decide +kernel
theorem dX8_digits_16 : decode cX8_digits 16 = .ok (.aload_n 0, 1) := by decide +kernel
theorem dX8_digits_17 : decode cX8_digits 17 = .ok (.invokevirtual 227, 3) := by decide +kernel
theorem dX8_digits_20 : decode cX8_digits 20 = .ok (.bipush 48, 2) := by decide +kernel
theorem dX8_digits_22 : decode cX8_digits 22 = .ok (.bipush 57, 2) := by decide +kernel
theorem dX8_digits_24 : decode cX8_digits 24 = .ok (.invokestatic 60, 3) := by decide +kernel
theorem dX8_digits_27 : decode cX8_digits 27 = .ok (.ifCond .eq 32, 3) := by decide +kernel
theorem dX8_digits_30 : decode cX8_digits 30 = .ok (.bipush 10, 2) := by decide +kernel
theorem dX8_digits_32 : decode cX8_digits 32 = .ok (.iload_n 2, 1) := by decide +kernel
theorem dX8_digits_33 : decode cX8_digits 33 = .ok (.imul, 1) := by decide +kernel
theorem dX8_digits_34 : decode cX8_digits 34 = .ok (.aload_n 0, 1) := by decide +kernel
theorem dX8_digits_35 : decode cX8_digits 35 = .ok (.invokevirtual 227, 3) := by decide +kernel
theorem dX8_digits_38 : decode cX8_digits 38 = .ok (.iadd, 1) := by decide +kernel
theorem dX8_digits_39 : decode cX8_digits 39 = .ok (.bipush 48, 2) := by decide +kernel
theorem dX8_digits_41 : decode cX8_digits 41 = .ok (.isub, 1) := by decide +kernel
theorem dX8_digits_42 : decode cX8_digits 42 = .ok (.istore_n 2, 1) := by decide +kernel
theorem dX8_digits_43 : decode cX8_digits 43 = .ok (.aload_n 0, 1) := by decide +kernel
theorem dX8_digits_44 : decode cX8_digits 44 = .ok (.dup, 1) := by decide +kernel
theorem dX8_digits_45 : decode cX8_digits 45 = .ok (.getfield 217, 3) := by decide +kernel
theorem dX8_digits_48 : decode cX8_digits 48 = .ok (.iconst 1, 1) := by decide +kernel
theorem dX8_digits_49 : decode cX8_digits 49 = .ok (.iadd, 1) := by decide +kernel
theorem dX8_digits_50 : decode cX8_digits 50 = .ok (.putfield 217, 3) := by decide +kernel
theorem dX8_digits_53 : decode cX8_digits 53 = .ok (.iinc 3 1, 3) := by decide +kernel
theorem dX8_digits_56 : decode cX8_digits 56 = .ok (.goto (-52), 3) := by decide +kernel
theorem dX8_digits_59 : decode cX8_digits 59 = .ok (.aload_n 0, 1) := by decide +kernel
theorem dX8_digits_60 : decode cX8_digits 60 = .ok (.dup, 1) := by decide +kernel
theorem dX8_digits_61 : decode cX8_digits 61 = .ok (.getfield 223, 3) := by decide +kernel
theorem dX8_digits_64 : decode cX8_digits 64 = .ok (.iload_n 3, 1) := by decide +kernel
theorem dX8_digits_65 : decode cX8_digits 65 = .ok (.ifCond .ne 7, 3) := by decide +kernel
theorem dX8_digits_68 : decode cX8_digits 68 = .ok (.iconst 1, 1) := by decide +kernel
theorem dX8_digits_69 : decode cX8_digits 69 = .ok (.goto 4, 3) := by decide +kernel
theorem dX8_digits_72 : decode cX8_digits 72 = .ok (.iconst 0, 1) := by decide +kernel
theorem dX8_digits_73 : decode cX8_digits 73 = .ok (.ior, 1) := by decide +kernel
theorem dX8_digits_74 : decode cX8_digits 74 = .ok (.putfield 223, 3) := by decide +kernel
theorem dX8_digits_77 : decode cX8_digits 77 = .ok (.iload_n 2, 1) := by decide +kernel
theorem dX8_digits_78 : decode cX8_digits 78 = .ok (.ireturn, 1) := by decide +kernel
theorem dX8_behind_0 : decode cX8_behind 0 = .ok (.aload_n 0, 1) := by decide +kernel
theorem dX8_behind_1 : decode cX8_behind 1 = .ok (.bipush 32, 2) := by decide +kernel
theorem dX8_behind_3 : decode cX8_behind 3 = .ok (.invokevirtual 230, 3) := by decide +kernel
theorem dX8_behind_6 : decode cX8_behind 6 = .ok (.aload_n 0, 1) := by decide +kernel
theorem dX8_behind_7 : decode cX8_behind 7 = .ok (.getfield 223, 3) := by decide +kernel
theorem dX8_behind_10 : decode cX8_behind 10 = .ok (.ifCond .eq 7, 3) := by decide +kernel
theorem dX8_behind_13 : decode cX8_behind 13 = .ok (.iconst 0, 1) := by decide +kernel
theorem dX8_behind_14 : decode cX8_behind 14 = .ok (.goto 8, 3) := by decide +kernel
theorem dX8_behind_17 : decode cX8_behind 17 = .ok (.aload_n 0, 1) := by decide +kernel
theorem dX8_behind_18 : decode cX8_behind 18 = .ok (.iload_n 1, 1) := by decide +kernel
theorem dX8_behind_19 : decode cX8_behind 19 = .ok (.invokevirtual 233, 3) := by decide +kernel
theorem dX8_behind_22 : decode cX8_behind 22 = .ok (.ireturn, 1) := by decide +kernel
theorem dX8_word_0 : decode cX8_word 0 = .ok (.iconst 0, 1) := by decide +kernel
theorem dX8_word_1 : decode cX8_word 1 = .ok (.istore_n 1, 1) := by decide +kernel
theorem dX8_word_2 : decode cX8_word 2 = .ok (.iload_n 1, 1) := by decide +kernel
theorem dX8_word_3 : decode cX8_word 3 = .ok (.bipush 11, 2) := by decide +kernel
theorem dX8_word_5 : decode cX8_word 5 = .ok (.if_icmp .ge 16, 3) := by decide +kernel
theorem dX8_word_8 : decode cX8_word 8 = .ok (.aload_n 0, 1) := by decide +kernel
theorem dX8_word_9 : decode cX8_word 9 = .ok (.getfield 41, 3) := by decide +kernel
theorem dX8_word_12 : decode cX8_word 12 = .ok (.iload_n 1, 1) := by decide +kernel
theorem dX8_word_13 : decode cX8_word 13 = .ok (.iconst 1, 1) := by decide +kernel
theorem dX8_word_14 : decode cX8_word 14 = .ok (.iastore, 1) := by decide +kernel
theorem dX8_word_15 : decode cX8_word 15 = .ok (.iinc 1 1, 3) := by decide +kernel
theorem dX8_word_18 : decode cX8_word 18 = .ok (.goto (-16), 3) := by decide +kernel
theorem dX8_word_21 : decode cX8_word 21 = .ok (.iconst 0, 1) := by decide +kernel
theorem dX8_word_22 : decode cX8_word 22 = .ok (.istore_n 1, 1) := by decide +kernel
theorem dX8_word_23 : decode cX8_word 23 = .ok (.iconst (-1), 1) := by decide +kernel
theorem dX8_word_24 : decode cX8_word 24 = .ok (.istore_n 2, 1) := by decide +kernel
theorem dX8_word_25 : decode cX8_word 25 = .ok (.iload_n 2, 1) := by decide +kernel
theorem dX8_word_26 : decode cX8_word 26 = .ok (.ifCond .ge 196, 3) := by decide +kernel
theorem dX8_word_29 : decode cX8_word 29 = .ok (.aload_n 0, 1) := by decide +kernel
theorem dX8_word_30 : decode cX8_word 30 = .ok (.getfield 223, 3) := by decide +kernel
theorem dX8_word_33 : decode cX8_word 33 = .ok (.ifCond .ne 189, 3) := by decide +kernel
theorem dX8_word_36 : decode cX8_word 36 = .ok (.iconst 0, 1) := by decide +kernel
theorem dX8_word_37 : decode cX8_word 37 = .ok (.istore_n 3, 1) := by decide +kernel
theorem dX8_word_38 : decode cX8_word 38 = .ok (.iconst 0, 1) := by decide +kernel
theorem dX8_word_39 : decode cX8_word 39 = .ok (.istore 4, 2) := by decide +kernel
theorem dX8_word_41 : decode cX8_word 41 = .ok (.iload 4, 2) := by decide +kernel
theorem dX8_word_43 : decode cX8_word 43 = .ok (.bipush 11, 2) := by decide +kernel
theorem dX8_word_45 : decode cX8_word 45 = .ok (.if_icmp .ge 85, 3) := by decide +kernel
theorem dX8_word_48 : decode cX8_word 48 = .ok (.aload_n 0, 1) := by decide +kernel
theorem dX8_word_49 : decode cX8_word 49 = .ok (.getfield 41, 3) := by decide +kernel
theorem dX8_word_52 : decode cX8_word 52 = .ok (.iload 4, 2) := by decide +kernel
theorem dX8_word_54 : decode cX8_word 54 = .ok (.dup2, 1) := by decide +kernel
theorem dX8_word_55 : decode cX8_word 55 = .ok (.iaload, 1) := by decide +kernel
theorem dX8_word_56 : decode cX8_word 56 = .ok (.aload_n 0, 1) := by decide +kernel
theorem dX8_word_57 : decode cX8_word 57 = .ok (.getfield 47, 3) := by decide +kernel
theorem dX8_word_60 : decode cX8_word 60 = .ok (.iload 4, 2) := by decide +kernel
theorem dX8_word_62 : decode cX8_word 62 = .ok (.iaload, 1) := by decide +kernel
theorem dX8_word_63 : decode cX8_word 63 = .ok (.iload_n 1, 1) := by decide +kernel
theorem dX8_word_64 : decode cX8_word 64 = .ok (.iadd, 1) := by decide +kernel
theorem dX8_word_65 : decode cX8_word 65 = .ok (.aload_n 0, 1) := by decide +kernel
theorem dX8_word_66 : decode cX8_word 66 = .ok (.getfield 47, 3) := by decide +kernel
theorem dX8_word_69 : decode cX8_word 69 = .ok (.iload 4, 2) := by decide +kernel
theorem dX8_word_71 : decode cX8_word 71 = .ok (.iconst 1, 1) := by decide +kernel
theorem dX8_word_72 : decode cX8_word 72 = .ok (.iadd, 1) := by decide +kernel
theorem dX8_word_73 : decode cX8_word 73 = .ok (.iaload, 1) := by decide +kernel
theorem dX8_word_74 : decode cX8_word 74 = .ok (.if_icmp .ge 28, 3) := by decide +kernel
theorem dX8_word_77 : decode cX8_word 77 = .ok (.aload_n 0, 1) := by decide +kernel
theorem dX8_word_78 : decode cX8_word 78 = .ok (.getfield 44, 3) := by decide +kernel
theorem dX8_word_81 : decode cX8_word 81 = .ok (.aload_n 0, 1) := by decide +kernel
theorem dX8_word_82 : decode cX8_word 82 = .ok (.getfield 47, 3) := by decide +kernel
theorem dX8_word_85 : decode cX8_word 85 = .ok (.iload 4, 2) := by decide +kernel
theorem dX8_word_87 : decode cX8_word 87 = .ok (.iaload, 1) := by decide +kernel
theorem dX8_word_88 : decode cX8_word 88 = .ok (.iload_n 1, 1) := by decide +kernel
theorem dX8_word_89 : decode cX8_word 89 = .ok (.iadd, 1) := by decide +kernel
theorem dX8_word_90 : decode cX8_word 90 = .ok (.iaload, 1) := by decide +kernel
theorem dX8_word_91 : decode cX8_word 91 = .ok (.aload_n 0, 1) := by decide +kernel
theorem dX8_word_92 : decode cX8_word 92 = .ok (.invokevirtual 227, 3) := by decide +kernel
theorem dX8_word_95 : decode cX8_word 95 = .ok (.if_icmp .ne 7, 3) := by decide +kernel
theorem dX8_word_98 : decode cX8_word 98 = .ok (.iconst 1, 1) := by decide +kernel
theorem dX8_word_99 : decode cX8_word 99 = .ok (.goto 4, 3) := by decide +kernel
theorem dX8_word_102 : decode cX8_word 102 = .ok (.iconst 0, 1) := by decide +kernel
theorem dX8_word_103 : decode cX8_word 103 = .ok (.iand, 1) := by decide +kernel
theorem dX8_word_104 : decode cX8_word 104 = .ok (.iastore, 1) := by decide +kernel
theorem dX8_word_105 : decode cX8_word 105 = .ok (.iload_n 3, 1) := by decide +kernel
theorem dX8_word_106 : decode cX8_word 106 = .ok (.aload_n 0, 1) := by decide +kernel
theorem dX8_word_107 : decode cX8_word 107 = .ok (.getfield 41, 3) := by decide +kernel
theorem dX8_word_110 : decode cX8_word 110 = .ok (.iload 4, 2) := by decide +kernel
theorem dX8_word_112 : decode cX8_word 112 = .ok (.iaload, 1) := by decide +kernel
theorem dX8_word_113 : decode cX8_word 113 = .ok (.iconst 1, 1) := by decide +kernel
theorem dX8_word_114 : decode cX8_word 114 = .ok (.if_icmp .ne 7, 3) := by decide +kernel
theorem dX8_word_117 : decode cX8_word 117 = .ok (.iconst 1, 1) := by decide +kernel
theorem dX8_word_118 : decode cX8_word 118 = .ok (.goto 4, 3) := by decide +kernel
theorem dX8_word_121 : decode cX8_word 121 = .ok (.iconst 0, 1) := by decide +kernel
theorem dX8_word_122 : decode cX8_word 122 = .ok (.ior, 1) := by decide +kernel
theorem dX8_word_123 : decode cX8_word 123 = .ok (.istore_n 3, 1) := by decide +kernel
theorem dX8_word_124 : decode cX8_word 124 = .ok (.iinc 4 1, 3) := by decide +kernel
theorem dX8_word_127 : decode cX8_word 127 = .ok (.goto (-86), 3) := by decide +kernel
theorem dX8_word_130 : decode cX8_word 130 = .ok (.aload_n 0, 1) := by decide +kernel
theorem dX8_word_131 : decode cX8_word 131 = .ok (.iload_n 3, 1) := by decide +kernel
theorem dX8_word_132 : decode cX8_word 132 = .ok (.ifCond .ne 7, 3) := by decide +kernel
theorem dX8_word_135 : decode cX8_word 135 = .ok (.iconst 1, 1) := by decide +kernel
theorem dX8_word_136 : decode cX8_word 136 = .ok (.goto 4, 3) := by decide +kernel
theorem dX8_word_139 : decode cX8_word 139 = .ok (.iconst 0, 1) := by decide +kernel
theorem dX8_word_140 : decode cX8_word 140 = .ok (.putfield 223, 3) := by decide +kernel
theorem dX8_word_143 : decode cX8_word 143 = .ok (.aload_n 0, 1) := by decide +kernel
theorem dX8_word_144 : decode cX8_word 144 = .ok (.dup, 1) := by decide +kernel
theorem dX8_word_145 : decode cX8_word 145 = .ok (.getfield 217, 3) := by decide +kernel
theorem dX8_word_148 : decode cX8_word 148 = .ok (.iload_n 3, 1) := by decide +kernel
theorem dX8_word_149 : decode cX8_word 149 = .ok (.ifCond .eq 7, 3) := by decide +kernel
theorem dX8_word_152 : decode cX8_word 152 = .ok (.iconst 1, 1) := by decide +kernel
theorem dX8_word_153 : decode cX8_word 153 = .ok (.goto 4, 3) := by decide +kernel
theorem dX8_word_156 : decode cX8_word 156 = .ok (.iconst 0, 1) := by decide +kernel
theorem dX8_word_157 : decode cX8_word 157 = .ok (.iadd, 1) := by decide +kernel
theorem dX8_word_158 : decode cX8_word 158 = .ok (.putfield 217, 3) := by decide +kernel
theorem dX8_word_161 : decode cX8_word 161 = .ok (.iinc 1 1, 3) := by decide +kernel
theorem dX8_word_164 : decode cX8_word 164 = .ok (.iconst 0, 1) := by decide +kernel
theorem dX8_word_165 : decode cX8_word 165 = .ok (.istore 4, 2) := by decide +kernel
theorem dX8_word_167 : decode cX8_word 167 = .ok (.iload 4, 2) := by decide +kernel
theorem dX8_word_169 : decode cX8_word 169 = .ok (.bipush 11, 2) := by decide +kernel
theorem dX8_word_171 : decode cX8_word 171 = .ok (.if_icmp .ge 48, 3) := by decide +kernel
theorem dX8_word_174 : decode cX8_word 174 = .ok (.aload_n 0, 1) := by decide +kernel
theorem dX8_word_175 : decode cX8_word 175 = .ok (.getfield 41, 3) := by decide +kernel
theorem dX8_word_178 : decode cX8_word 178 = .ok (.iload 4, 2) := by decide +kernel
theorem dX8_word_180 : decode cX8_word 180 = .ok (.iaload, 1) := by decide +kernel
theorem dX8_word_181 : decode cX8_word 181 = .ok (.iconst 1, 1) := by decide +kernel
theorem dX8_word_182 : decode cX8_word 182 = .ok (.if_icmp .ne 29, 3) := by decide +kernel
theorem dX8_word_185 : decode cX8_word 185 = .ok (.aload_n 0, 1) := by decide +kernel
theorem dX8_word_186 : decode cX8_word 186 = .ok (.getfield 47, 3) := by decide +kernel
theorem dX8_word_189 : decode cX8_word 189 = .ok (.iload 4, 2) := by decide +kernel
theorem dX8_word_191 : decode cX8_word 191 = .ok (.iaload, 1) := by decide +kernel
theorem dX8_word_192 : decode cX8_word 192 = .ok (.iload_n 1, 1) := by decide +kernel
theorem dX8_word_193 : decode cX8_word 193 = .ok (.iadd, 1) := by decide +kernel
theorem dX8_word_194 : decode cX8_word 194 = .ok (.aload_n 0, 1) := by decide +kernel
theorem dX8_word_195 : decode cX8_word 195 = .ok (.getfield 47, 3) := by decide +kernel
theorem dX8_word_198 : decode cX8_word 198 = .ok (.iload 4, 2) := by decide +kernel
theorem dX8_word_200 : decode cX8_word 200 = .ok (.iconst 1, 1) := by decide +kernel
theorem dX8_word_201 : decode cX8_word 201 = .ok (.iadd, 1) := by decide +kernel
theorem dX8_word_202 : decode cX8_word 202 = .ok (.iaload, 1) := by decide +kernel
theorem dX8_word_203 : decode cX8_word 203 = .ok (.if_icmp .ne 8, 3) := by decide +kernel
theorem dX8_word_206 : decode cX8_word 206 = .ok (.iload 4, 2) := by decide +kernel
theorem dX8_word_208 : decode cX8_word 208 = .ok (.goto 4, 3) := by decide +kernel
theorem dX8_word_211 : decode cX8_word 211 = .ok (.iload_n 2, 1) := by decide +kernel
theorem dX8_word_212 : decode cX8_word 212 = .ok (.istore_n 2, 1) := by decide +kernel
theorem dX8_word_213 : decode cX8_word 213 = .ok (.iinc 4 1, 3) := by decide +kernel
theorem dX8_word_216 : decode cX8_word 216 = .ok (.goto (-49), 3) := by decide +kernel
theorem dX8_word_219 : decode cX8_word 219 = .ok (.goto (-194), 3) := by decide +kernel
theorem dX8_word_222 : decode cX8_word 222 = .ok (.iload_n 2, 1) := by decide +kernel
theorem dX8_word_223 : decode cX8_word 223 = .ok (.ireturn, 1) := by decide +kernel
theorem dX8_does_0 : decode cX8_does 0 = .ok (.iload_n 1, 1) := by decide +kernel
theorem dX8_does_1 : decode cX8_does 1 = .ok (.tableswitch 117 0 9 #[55, 61, 67, 73, 79, 86, 92, 99, 105, 111], 55) := by decide +kernel
theorem dX8_does_56 : decode cX8_does 56 = .ok (.aload_n 0, 1) := by decide +kernel
theorem dX8_does_57 : decode cX8_does 57 = .ok (.iload_n 2, 1) := by decide +kernel
theorem dX8_does_58 : decode cX8_does 58 = .ok (.invokevirtual 89, 3) := by decide +kernel
theorem dX8_does_61 : decode cX8_does 61 = .ok (.ireturn, 1) := by decide +kernel
theorem dX8_does_62 : decode cX8_does 62 = .ok (.aload_n 0, 1) := by decide +kernel
theorem dX8_does_63 : decode cX8_does 63 = .ok (.iload_n 2, 1) := by decide +kernel
theorem dX8_does_64 : decode cX8_does 64 = .ok (.invokevirtual 98, 3) := by decide +kernel
theorem dX8_does_67 : decode cX8_does 67 = .ok (.ireturn, 1) := by decide +kernel
theorem dX8_does_68 : decode cX8_does 68 = .ok (.aload_n 0, 1) := by decide +kernel
theorem dX8_does_69 : decode cX8_does 69 = .ok (.iload_n 2, 1) := by decide +kernel
theorem dX8_does_70 : decode cX8_does 70 = .ok (.invokevirtual 111, 3) := by decide +kernel
theorem dX8_does_73 : decode cX8_does 73 = .ok (.ireturn, 1) := by decide +kernel
theorem dX8_does_74 : decode cX8_does 74 = .ok (.aload_n 0, 1) := by decide +kernel
theorem dX8_does_75 : decode cX8_does 75 = .ok (.iload_n 2, 1) := by decide +kernel
theorem dX8_does_76 : decode cX8_does 76 = .ok (.invokevirtual 114, 3) := by decide +kernel
theorem dX8_does_79 : decode cX8_does 79 = .ok (.ireturn, 1) := by decide +kernel
theorem dX8_does_80 : decode cX8_does 80 = .ok (.aload_n 0, 1) := by decide +kernel
theorem dX8_does_81 : decode cX8_does 81 = .ok (.iload_n 2, 1) := by decide +kernel
theorem dX8_does_82 : decode cX8_does 82 = .ok (.iload_n 3, 1) := by decide +kernel
theorem dX8_does_83 : decode cX8_does 83 = .ok (.invokevirtual 123, 3) := by decide +kernel
theorem dX8_does_86 : decode cX8_does 86 = .ok (.ireturn, 1) := by decide +kernel
theorem dX8_does_87 : decode cX8_does 87 = .ok (.aload_n 0, 1) := by decide +kernel
theorem dX8_does_88 : decode cX8_does 88 = .ok (.iload_n 2, 1) := by decide +kernel
theorem dX8_does_89 : decode cX8_does 89 = .ok (.invokevirtual 126, 3) := by decide +kernel
theorem dX8_does_92 : decode cX8_does 92 = .ok (.ireturn, 1) := by decide +kernel
theorem dX8_does_93 : decode cX8_does 93 = .ok (.aload_n 0, 1) := by decide +kernel
theorem dX8_does_94 : decode cX8_does 94 = .ok (.iload_n 2, 1) := by decide +kernel
theorem dX8_does_95 : decode cX8_does 95 = .ok (.iload_n 3, 1) := by decide +kernel
theorem dX8_does_96 : decode cX8_does 96 = .ok (.invokevirtual 151, 3) := by decide +kernel
theorem dX8_does_99 : decode cX8_does 99 = .ok (.ireturn, 1) := by decide +kernel
theorem dX8_does_100 : decode cX8_does 100 = .ok (.aload_n 0, 1) := by decide +kernel
theorem dX8_does_101 : decode cX8_does 101 = .ok (.iload_n 2, 1) := by decide +kernel
theorem dX8_does_102 : decode cX8_does 102 = .ok (.invokevirtual 154, 3) := by decide +kernel
theorem dX8_does_105 : decode cX8_does 105 = .ok (.ireturn, 1) := by decide +kernel
theorem dX8_does_106 : decode cX8_does 106 = .ok (.aload_n 0, 1) := by decide +kernel
theorem dX8_does_107 : decode cX8_does 107 = .ok (.iload_n 2, 1) := by decide +kernel
theorem dX8_does_108 : decode cX8_does 108 = .ok (.invokevirtual 163, 3) := by decide +kernel
theorem dX8_does_111 : decode cX8_does 111 = .ok (.ireturn, 1) := by decide +kernel
theorem dX8_does_112 : decode cX8_does 112 = .ok (.aload_n 0, 1) := by decide +kernel
theorem dX8_does_113 : decode cX8_does 113 = .ok (.iload_n 2, 1) := by decide +kernel
theorem dX8_does_114 : decode cX8_does 114 = .ok (.invokevirtual 204, 3) := by decide +kernel
theorem dX8_does_117 : decode cX8_does 117 = .ok (.ireturn, 1) := by decide +kernel
theorem dX8_does_118 : decode cX8_does 118 = .ok (.aload_n 0, 1) := by decide +kernel
theorem dX8_does_119 : decode cX8_does 119 = .ok (.iload_n 2, 1) := by decide +kernel
theorem dX8_does_120 : decode cX8_does 120 = .ok (.iload_n 3, 1) := by decide +kernel
theorem dX8_does_121 : decode cX8_does 121 = .ok (.iload 4, 2) := by decide +kernel
theorem dX8_does_123 : decode cX8_does 123 = .ok (.invokevirtual 210, 3) := by decide +kernel
theorem dX8_does_126 : decode cX8_does 126 = .ok (.ireturn, 1) := by decide +kernel
theorem dX8_command_0 : decode cX8_command 0 = .ok (.aload_n 0, 1) := by decide +kernel
theorem dX8_command_1 : decode cX8_command 1 = .ok (.invokevirtual 236, 3) := by decide +kernel
theorem dX8_command_4 : decode cX8_command 4 = .ok (.istore_n 1, 1) := by decide +kernel
theorem dX8_command_5 : decode cX8_command 5 = .ok (.iconst 0, 1) := by decide +kernel
theorem dX8_command_6 : decode cX8_command 6 = .ok (.istore_n 2, 1) := by decide +kernel
theorem dX8_command_7 : decode cX8_command 7 = .ok (.iconst 0, 1) := by decide +kernel
theorem dX8_command_8 : decode cX8_command 8 = .ok (.istore_n 3, 1) := by decide +kernel
theorem dX8_command_9 : decode cX8_command 9 = .ok (.aload_n 0, 1) := by decide +kernel
theorem dX8_command_10 : decode cX8_command 10 = .ok (.getfield 223, 3) := by decide +kernel
theorem dX8_command_13 : decode cX8_command 13 = .ok (.ifCond .eq 4, 3) := by decide +kernel
theorem dX8_command_16 : decode cX8_command 16 = .ok (.return_, 1) := by decide +kernel
theorem dX8_command_17 : decode cX8_command 17 = .ok (.aload_n 0, 1) := by decide +kernel
theorem dX8_command_18 : decode cX8_command 18 = .ok (.iload_n 1, 1) := by decide +kernel
theorem dX8_command_19 : decode cX8_command 19 = .ok (.iconst 2, 1) := by decide +kernel
theorem dX8_command_20 : decode cX8_command 20 = .ok (.if_icmp .lt 14, 3) := by decide +kernel
theorem dX8_command_23 : decode cX8_command 23 = .ok (.iload_n 1, 1) := by decide +kernel
theorem dX8_command_24 : decode cX8_command 24 = .ok (.iconst 5, 1) := by decide +kernel
theorem dX8_command_25 : decode cX8_command 25 = .ok (.if_icmp .eq 9, 3) := by decide +kernel
theorem dX8_command_28 : decode cX8_command 28 = .ok (.iload_n 1, 1) := by decide +kernel
theorem dX8_command_29 : decode cX8_command 29 = .ok (.bipush 9, 2) := by decide +kernel
theorem dX8_command_31 : decode cX8_command 31 = .ok (.if_icmp .ne 7, 3) := by decide +kernel
theorem dX8_command_34 : decode cX8_command 34 = .ok (.iconst 3, 1) := by decide +kernel
theorem dX8_command_35 : decode cX8_command 35 = .ok (.goto 4, 3) := by decide +kernel
theorem dX8_command_38 : decode cX8_command 38 = .ok (.iconst 1, 1) := by decide +kernel
theorem dX8_command_39 : decode cX8_command 39 = .ok (.invokevirtual 233, 3) := by decide +kernel
theorem dX8_command_42 : decode cX8_command 42 = .ok (.istore 4, 2) := by decide +kernel
theorem dX8_command_44 : decode cX8_command 44 = .ok (.iload_n 1, 1) := by decide +kernel
theorem dX8_command_45 : decode cX8_command 45 = .ok (.iconst 4, 1) := by decide +kernel
theorem dX8_command_46 : decode cX8_command 46 = .ok (.if_icmp .eq 15, 3) := by decide +kernel
theorem dX8_command_49 : decode cX8_command 49 = .ok (.iload_n 1, 1) := by decide +kernel
theorem dX8_command_50 : decode cX8_command 50 = .ok (.bipush 6, 2) := by decide +kernel
theorem dX8_command_52 : decode cX8_command 52 = .ok (.if_icmp .eq 9, 3) := by decide +kernel
theorem dX8_command_55 : decode cX8_command 55 = .ok (.iload_n 1, 1) := by decide +kernel
theorem dX8_command_56 : decode cX8_command 56 = .ok (.bipush 10, 2) := by decide +kernel
theorem dX8_command_58 : decode cX8_command 58 = .ok (.if_icmp .ne 16, 3) := by decide +kernel
theorem dX8_command_61 : decode cX8_command 61 = .ok (.aload_n 0, 1) := by decide +kernel
theorem dX8_command_62 : decode cX8_command 62 = .ok (.getfield 223, 3) := by decide +kernel
theorem dX8_command_65 : decode cX8_command 65 = .ok (.ifCond .ne 9, 3) := by decide +kernel
theorem dX8_command_68 : decode cX8_command 68 = .ok (.aload_n 0, 1) := by decide +kernel
theorem dX8_command_69 : decode cX8_command 69 = .ok (.iconst 3, 1) := by decide +kernel
theorem dX8_command_70 : decode cX8_command 70 = .ok (.invokevirtual 239, 3) := by decide +kernel
theorem dX8_command_73 : decode cX8_command 73 = .ok (.istore_n 2, 1) := by decide +kernel
theorem dX8_command_74 : decode cX8_command 74 = .ok (.iload_n 1, 1) := by decide +kernel
theorem dX8_command_75 : decode cX8_command 75 = .ok (.bipush 10, 2) := by decide +kernel
theorem dX8_command_77 : decode cX8_command 77 = .ok (.if_icmp .ne 16, 3) := by decide +kernel
theorem dX8_command_80 : decode cX8_command 80 = .ok (.aload_n 0, 1) := by decide +kernel
theorem dX8_command_81 : decode cX8_command 81 = .ok (.getfield 223, 3) := by decide +kernel
theorem dX8_command_84 : decode cX8_command 84 = .ok (.ifCond .ne 9, 3) := by decide +kernel
theorem dX8_command_87 : decode cX8_command 87 = .ok (.aload_n 0, 1) := by decide +kernel
theorem dX8_command_88 : decode cX8_command 88 = .ok (.iconst 1, 1) := by decide +kernel
theorem dX8_command_89 : decode cX8_command 89 = .ok (.invokevirtual 239, 3) := by decide +kernel
theorem dX8_command_92 : decode cX8_command 92 = .ok (.istore_n 3, 1) := by decide +kernel
theorem dX8_command_93 : decode cX8_command 93 = .ok (.aload_n 0, 1) := by decide +kernel
theorem dX8_command_94 : decode cX8_command 94 = .ok (.getfield 223, 3) := by decide +kernel
theorem dX8_command_97 : decode cX8_command 97 = .ok (.ifCond .ne 10, 3) := by decide +kernel
theorem dX8_command_100 : decode cX8_command 100 = .ok (.aload_n 0, 1) := by decide +kernel
theorem dX8_command_101 : decode cX8_command 101 = .ok (.getfield 242, 3) := by decide +kernel
theorem dX8_command_104 : decode cX8_command 104 = .ok (.ifCond .ne 4, 3) := by decide +kernel
theorem dX8_command_107 : decode cX8_command 107 = .ok (.return_, 1) := by decide +kernel
theorem dX8_command_108 : decode cX8_command 108 = .ok (.aload_n 0, 1) := by decide +kernel
theorem dX8_command_109 : decode cX8_command 109 = .ok (.iload_n 1, 1) := by decide +kernel
theorem dX8_command_110 : decode cX8_command 110 = .ok (.iload 4, 2) := by decide +kernel
theorem dX8_command_112 : decode cX8_command 112 = .ok (.iload_n 2, 1) := by decide +kernel
theorem dX8_command_113 : decode cX8_command 113 = .ok (.iload_n 3, 1) := by decide +kernel
theorem dX8_command_114 : decode cX8_command 114 = .ok (.invokevirtual 245, 3) := by decide +kernel
theorem dX8_command_117 : decode cX8_command 117 = .ok (.istore 5, 2) := by decide +kernel
theorem dX8_command_119 : decode cX8_command 119 = .ok (.return_, 1) := by decide +kernel
theorem dX8_commands_0 : decode cX8_commands 0 = .ok (.aload_n 0, 1) := by decide +kernel
theorem dX8_commands_1 : decode cX8_commands 1 = .ok (.iconst 0, 1) := by decide +kernel
theorem dX8_commands_2 : decode cX8_commands 2 = .ok (.putfield 217, 3) := by decide +kernel
theorem dX8_commands_5 : decode cX8_commands 5 = .ok (.aload_n 0, 1) := by decide +kernel
theorem dX8_commands_6 : decode cX8_commands 6 = .ok (.iconst 0, 1) := by decide +kernel
theorem dX8_commands_7 : decode cX8_commands 7 = .ok (.putfield 223, 3) := by decide +kernel
theorem dX8_commands_10 : decode cX8_commands 10 = .ok (.iconst 1, 1) := by decide +kernel
theorem dX8_commands_11 : decode cX8_commands 11 = .ok (.istore_n 1, 1) := by decide +kernel
theorem dX8_commands_12 : decode cX8_commands 12 = .ok (.aload_n 0, 1) := by decide +kernel
theorem dX8_commands_13 : decode cX8_commands 13 = .ok (.invokevirtual 249, 3) := by decide +kernel
theorem dX8_commands_16 : decode cX8_commands 16 = .ok (.aload_n 0, 1) := by decide +kernel
theorem dX8_commands_17 : decode cX8_commands 17 = .ok (.getfield 223, 3) := by decide +kernel
theorem dX8_commands_20 : decode cX8_commands 20 = .ok (.ifCond .ne 44, 3) := by decide +kernel
theorem dX8_commands_23 : decode cX8_commands 23 = .ok (.aload_n 0, 1) := by decide +kernel
theorem dX8_commands_24 : decode cX8_commands 24 = .ok (.getfield 50, 3) := by decide +kernel
theorem dX8_commands_27 : decode cX8_commands 27 = .ok (.ifCond .ne 37, 3) := by decide +kernel
theorem dX8_commands_30 : decode cX8_commands 30 = .ok (.aload_n 0, 1) := by decide +kernel
theorem dX8_commands_31 : decode cX8_commands 31 = .ok (.getfield 217, 3) := by decide +kernel
theorem dX8_commands_34 : decode cX8_commands 34 = .ok (.aload_n 0, 1) := by decide +kernel
theorem dX8_commands_35 : decode cX8_commands 35 = .ok (.getfield 220, 3) := by decide +kernel
theorem dX8_commands_38 : decode cX8_commands 38 = .ok (.if_icmp .ge 26, 3) := by decide +kernel
theorem dX8_commands_41 : decode cX8_commands 41 = .ok (.aload_n 0, 1) := by decide +kernel
theorem dX8_commands_42 : decode cX8_commands 42 = .ok (.bipush 59, 2) := by decide +kernel
theorem dX8_commands_44 : decode cX8_commands 44 = .ok (.invokevirtual 230, 3) := by decide +kernel
theorem dX8_commands_47 : decode cX8_commands 47 = .ok (.aload_n 0, 1) := by decide +kernel
theorem dX8_commands_48 : decode cX8_commands 48 = .ok (.getfield 223, 3) := by decide +kernel
theorem dX8_commands_51 : decode cX8_commands 51 = .ok (.ifCond .ne 7, 3) := by decide +kernel
theorem dX8_commands_54 : decode cX8_commands 54 = .ok (.aload_n 0, 1) := by decide +kernel
theorem dX8_commands_55 : decode cX8_commands 55 = .ok (.invokevirtual 249, 3) := by decide +kernel
theorem dX8_commands_58 : decode cX8_commands 58 = .ok (.iinc 1 1, 3) := by decide +kernel
theorem dX8_commands_61 : decode cX8_commands 61 = .ok (.goto (-45), 3) := by decide +kernel
theorem dX8_commands_64 : decode cX8_commands 64 = .ok (.iload_n 1, 1) := by decide +kernel
theorem dX8_commands_65 : decode cX8_commands 65 = .ok (.ireturn, 1) := by decide +kernel
theorem dX8_run_0 : decode cX8_run 0 = .ok (.aload_n 0, 1) := by decide +kernel
theorem dX8_run_1 : decode cX8_run 1 = .ok (.invokevirtual 86, 3) := by decide +kernel
theorem dX8_run_4 : decode cX8_run 4 = .ok (.aload_n 0, 1) := by decide +kernel
theorem dX8_run_5 : decode cX8_run 5 = .ok (.aload_n 0, 1) := by decide +kernel
theorem dX8_run_6 : decode cX8_run 6 = .ok (.getfield 214, 3) := by decide +kernel
theorem dX8_run_9 : decode cX8_run 9 = .ok (.putfield 220, 3) := by decide +kernel
theorem dX8_run_12 : decode cX8_run 12 = .ok (.aload_n 0, 1) := by decide +kernel
theorem dX8_run_13 : decode cX8_run 13 = .ok (.iconst 0, 1) := by decide +kernel
theorem dX8_run_14 : decode cX8_run 14 = .ok (.putfield 214, 3) := by decide +kernel
theorem dX8_run_17 : decode cX8_run 17 = .ok (.aload_n 0, 1) := by decide +kernel
theorem dX8_run_18 : decode cX8_run 18 = .ok (.iconst 0, 1) := by decide +kernel
theorem dX8_run_19 : decode cX8_run 19 = .ok (.putfield 242, 3) := by decide +kernel
theorem dX8_run_22 : decode cX8_run 22 = .ok (.aload_n 0, 1) := by decide +kernel
theorem dX8_run_23 : decode cX8_run 23 = .ok (.invokevirtual 252, 3) := by decide +kernel
theorem dX8_run_26 : decode cX8_run 26 = .ok (.istore_n 1, 1) := by decide +kernel
theorem dX8_run_27 : decode cX8_run 27 = .ok (.aload_n 0, 1) := by decide +kernel
theorem dX8_run_28 : decode cX8_run 28 = .ok (.getfield 223, 3) := by decide +kernel
theorem dX8_run_31 : decode cX8_run 31 = .ok (.ifCond .eq 17, 3) := by decide +kernel
theorem dX8_run_34 : decode cX8_run 34 = .ok (.aload_n 0, 1) := by decide +kernel
theorem dX8_run_35 : decode cX8_run 35 = .ok (.aload_n 0, 1) := by decide +kernel
theorem dX8_run_36 : decode cX8_run 36 = .ok (.getfield 217, 3) := by decide +kernel
theorem dX8_run_39 : decode cX8_run 39 = .ok (.putfield 7, 3) := by decide +kernel
theorem dX8_run_42 : decode cX8_run 42 = .ok (.aload_n 0, 1) := by decide +kernel
theorem dX8_run_43 : decode cX8_run 43 = .ok (.iconst 1, 1) := by decide +kernel
theorem dX8_run_44 : decode cX8_run 44 = .ok (.invokevirtual 76, 3) := by decide +kernel
theorem dX8_run_47 : decode cX8_run 47 = .ok (.ireturn, 1) := by decide +kernel
theorem dX8_run_48 : decode cX8_run 48 = .ok (.aload_n 0, 1) := by decide +kernel
theorem dX8_run_49 : decode cX8_run 49 = .ok (.iconst 1, 1) := by decide +kernel
theorem dX8_run_50 : decode cX8_run 50 = .ok (.putfield 242, 3) := by decide +kernel
theorem dX8_run_53 : decode cX8_run 53 = .ok (.aload_n 0, 1) := by decide +kernel
theorem dX8_run_54 : decode cX8_run 54 = .ok (.invokevirtual 252, 3) := by decide +kernel
theorem dX8_run_57 : decode cX8_run 57 = .ok (.istore_n 1, 1) := by decide +kernel
theorem dX8_run_58 : decode cX8_run 58 = .ok (.aload_n 0, 1) := by decide +kernel
theorem dX8_run_59 : decode cX8_run 59 = .ok (.getfield 50, 3) := by decide +kernel
theorem dX8_run_62 : decode cX8_run 62 = .ok (.ifCond .eq 15, 3) := by decide +kernel
theorem dX8_run_65 : decode cX8_run 65 = .ok (.aload_n 0, 1) := by decide +kernel
theorem dX8_run_66 : decode cX8_run 66 = .ok (.iload_n 1, 1) := by decide +kernel
theorem dX8_run_67 : decode cX8_run 67 = .ok (.iconst 1, 1) := by decide +kernel
theorem dX8_run_68 : decode cX8_run 68 = .ok (.isub, 1) := by decide +kernel
theorem dX8_run_69 : decode cX8_run 69 = .ok (.putfield 13, 3) := by decide +kernel
theorem dX8_run_72 : decode cX8_run 72 = .ok (.aload_n 0, 1) := by decide +kernel
theorem dX8_run_73 : decode cX8_run 73 = .ok (.iconst 2, 1) := by decide +kernel
theorem dX8_run_74 : decode cX8_run 74 = .ok (.putfield 50, 3) := by decide +kernel
theorem dX8_run_77 : decode cX8_run 77 = .ok (.aload_n 0, 1) := by decide +kernel
theorem dX8_run_78 : decode cX8_run 78 = .ok (.iload_n 1, 1) := by decide +kernel
theorem dX8_run_79 : decode cX8_run 79 = .ok (.invokevirtual 92, 3) := by decide +kernel
theorem dX8_run_82 : decode cX8_run 82 = .ok (.ireturn, 1) := by decide +kernel
theorem dX8_errorPosition_0 : decode cX8_errorPosition 0 = .ok (.aload_n 0, 1) := by decide +kernel
theorem dX8_errorPosition_1 : decode cX8_errorPosition 1 = .ok (.aload_n 0, 1) := by decide +kernel
theorem dX8_errorPosition_2 : decode cX8_errorPosition 2 = .ok (.getfield 7, 3) := by decide +kernel
theorem dX8_errorPosition_5 : decode cX8_errorPosition 5 = .ok (.ifCond .ge 7, 3) := by decide +kernel
theorem dX8_errorPosition_8 : decode cX8_errorPosition 8 = .ok (.iconst 1, 1) := by decide +kernel
theorem dX8_errorPosition_9 : decode cX8_errorPosition 9 = .ok (.goto 4, 3) := by decide +kernel
theorem dX8_errorPosition_12 : decode cX8_errorPosition 12 = .ok (.iconst 0, 1) := by decide +kernel
theorem dX8_errorPosition_13 : decode cX8_errorPosition 13 = .ok (.putfield 50, 3) := by decide +kernel
theorem dX8_errorPosition_16 : decode cX8_errorPosition 16 = .ok (.aload_n 0, 1) := by decide +kernel
theorem dX8_errorPosition_17 : decode cX8_errorPosition 17 = .ok (.getfield 50, 3) := by decide +kernel
theorem dX8_errorPosition_20 : decode cX8_errorPosition 20 = .ok (.ifCond .ne 10, 3) := by decide +kernel
theorem dX8_errorPosition_23 : decode cX8_errorPosition 23 = .ok (.aload_n 0, 1) := by decide +kernel
theorem dX8_errorPosition_24 : decode cX8_errorPosition 24 = .ok (.getfield 7, 3) := by decide +kernel
theorem dX8_errorPosition_27 : decode cX8_errorPosition 27 = .ok (.goto 4, 3) := by decide +kernel
theorem dX8_errorPosition_30 : decode cX8_errorPosition 30 = .ok (.iconst 0, 1) := by decide +kernel
theorem dX8_errorPosition_31 : decode cX8_errorPosition 31 = .ok (.ireturn, 1) := by decide +kernel
theorem dX8_failedCommand_0 : decode cX8_failedCommand 0 = .ok (.aload_n 0, 1) := by decide +kernel
theorem dX8_failedCommand_1 : decode cX8_failedCommand 1 = .ok (.aload_n 0, 1) := by decide +kernel
theorem dX8_failedCommand_2 : decode cX8_failedCommand 2 = .ok (.getfield 13, 3) := by decide +kernel
theorem dX8_failedCommand_5 : decode cX8_failedCommand 5 = .ok (.ifCond .ge 7, 3) := by decide +kernel
theorem dX8_failedCommand_8 : decode cX8_failedCommand 8 = .ok (.iconst 1, 1) := by decide +kernel
theorem dX8_failedCommand_9 : decode cX8_failedCommand 9 = .ok (.goto 4, 3) := by decide +kernel
theorem dX8_failedCommand_12 : decode cX8_failedCommand 12 = .ok (.iconst 0, 1) := by decide +kernel
theorem dX8_failedCommand_13 : decode cX8_failedCommand 13 = .ok (.putfield 50, 3) := by decide +kernel
theorem dX8_failedCommand_16 : decode cX8_failedCommand 16 = .ok (.aload_n 0, 1) := by decide +kernel
theorem dX8_failedCommand_17 : decode cX8_failedCommand 17 = .ok (.getfield 50, 3) := by decide +kernel
theorem dX8_failedCommand_20 : decode cX8_failedCommand 20 = .ok (.ifCond .ne 10, 3) := by decide +kernel
theorem dX8_failedCommand_23 : decode cX8_failedCommand 23 = .ok (.aload_n 0, 1) := by decide +kernel
theorem dX8_failedCommand_24 : decode cX8_failedCommand 24 = .ok (.getfield 13, 3) := by decide +kernel
theorem dX8_failedCommand_27 : decode cX8_failedCommand 27 = .ok (.goto 4, 3) := by decide +kernel
theorem dX8_failedCommand_30 : decode cX8_failedCommand 30 = .ok (.iconst 0, 1) := by decide +kernel
theorem dX8_failedCommand_31 : decode cX8_failedCommand 31 = .ok (.ireturn, 1) := by decide +kernel
theorem dX8_describeRow_0 : decode cX8_describeRow 0 = .ok (.aload_n 0, 1) := by decide +kernel
theorem dX8_describeRow_1 : decode cX8_describeRow 1 = .ok (.iload_n 1, 1) := by decide +kernel
theorem dX8_describeRow_2 : decode cX8_describeRow 2 = .ok (.iconst 0, 1) := by decide +kernel
theorem dX8_describeRow_3 : decode cX8_describeRow 3 = .ok (.bipush 7, 2) := by decide +kernel
theorem dX8_describeRow_5 : decode cX8_describeRow 5 = .ok (.invokestatic 60, 3) := by decide +kernel
theorem dX8_describeRow_8 : decode cX8_describeRow 8 = .ok (.ifCond .eq 7, 3) := by decide +kernel
theorem dX8_describeRow_11 : decode cX8_describeRow 11 = .ok (.iconst 0, 1) := by decide +kernel
theorem dX8_describeRow_12 : decode cX8_describeRow 12 = .ok (.goto 4, 3) := by decide +kernel
theorem dX8_describeRow_15 : decode cX8_describeRow 15 = .ok (.iconst 1, 1) := by decide +kernel
theorem dX8_describeRow_16 : decode cX8_describeRow 16 = .ok (.putfield 50, 3) := by decide +kernel
theorem dX8_describeRow_19 : decode cX8_describeRow 19 = .ok (.aload_n 0, 1) := by decide +kernel
theorem dX8_describeRow_20 : decode cX8_describeRow 20 = .ok (.getfield 50, 3) := by decide +kernel
theorem dX8_describeRow_23 : decode cX8_describeRow 23 = .ok (.ifCond .eq 5, 3) := by decide +kernel
theorem dX8_describeRow_26 : decode cX8_describeRow 26 = .ok (.iconst 0, 1) := by decide +kernel
theorem dX8_describeRow_27 : decode cX8_describeRow 27 = .ok (.ireturn, 1) := by decide +kernel
theorem dX8_describeRow_28 : decode cX8_describeRow 28 = .ok (.iconst 0, 1) := by decide +kernel
theorem dX8_describeRow_29 : decode cX8_describeRow 29 = .ok (.istore_n 2, 1) := by decide +kernel
theorem dX8_describeRow_30 : decode cX8_describeRow 30 = .ok (.iload_n 2, 1) := by decide +kernel
theorem dX8_describeRow_31 : decode cX8_describeRow 31 = .ok (.bipush 8, 2) := by decide +kernel
theorem dX8_describeRow_33 : decode cX8_describeRow 33 = .ok (.if_icmp .ge 78, 3) := by decide +kernel
theorem dX8_describeRow_36 : decode cX8_describeRow 36 = .ok (.bipush 8, 2) := by decide +kernel
theorem dX8_describeRow_38 : decode cX8_describeRow 38 = .ok (.iload_n 1, 1) := by decide +kernel
theorem dX8_describeRow_39 : decode cX8_describeRow 39 = .ok (.imul, 1) := by decide +kernel
theorem dX8_describeRow_40 : decode cX8_describeRow 40 = .ok (.iload_n 2, 1) := by decide +kernel
theorem dX8_describeRow_41 : decode cX8_describeRow 41 = .ok (.iadd, 1) := by decide +kernel
theorem dX8_describeRow_42 : decode cX8_describeRow 42 = .ok (.istore_n 3, 1) := by decide +kernel
theorem dX8_describeRow_43 : decode cX8_describeRow 43 = .ok (.aload_n 0, 1) := by decide +kernel
theorem dX8_describeRow_44 : decode cX8_describeRow 44 = .ok (.iload_n 3, 1) := by decide +kernel
theorem dX8_describeRow_45 : decode cX8_describeRow 45 = .ok (.invokevirtual 79, 3) := by decide +kernel
theorem dX8_describeRow_48 : decode cX8_describeRow 48 = .ok (.istore 4, 2) := by decide +kernel
theorem dX8_describeRow_50 : decode cX8_describeRow 50 = .ok (.aload_n 0, 1) := by decide +kernel
theorem dX8_describeRow_51 : decode cX8_describeRow 51 = .ok (.iload_n 3, 1) := by decide +kernel
theorem dX8_describeRow_52 : decode cX8_describeRow 52 = .ok (.invokevirtual 95, 3) := by decide +kernel
theorem dX8_describeRow_55 : decode cX8_describeRow 55 = .ok (.ifCond .eq 8, 3) := by decide +kernel
theorem dX8_describeRow_58 : decode cX8_describeRow 58 = .ok (.bipush 95, 2) := by decide +kernel
theorem dX8_describeRow_60 : decode cX8_describeRow 60 = .ok (.goto 5, 3) := by decide +kernel
theorem dX8_describeRow_63 : decode cX8_describeRow 63 = .ok (.bipush 46, 2) := by decide +kernel
theorem dX8_describeRow_65 : decode cX8_describeRow 65 = .ok (.istore 5, 2) := by decide +kernel
theorem dX8_describeRow_67 : decode cX8_describeRow 67 = .ok (.aload_n 0, 1) := by decide +kernel
theorem dX8_describeRow_68 : decode cX8_describeRow 68 = .ok (.getfield 38, 3) := by decide +kernel
theorem dX8_describeRow_71 : decode cX8_describeRow 71 = .ok (.iload_n 2, 1) := by decide +kernel
theorem dX8_describeRow_72 : decode cX8_describeRow 72 = .ok (.iload 4, 2) := by decide +kernel
theorem dX8_describeRow_74 : decode cX8_describeRow 74 = .ok (.ifCond .ge 8, 3) := by decide +kernel
theorem dX8_describeRow_77 : decode cX8_describeRow 77 = .ok (.iload 5, 2) := by decide +kernel
theorem dX8_describeRow_79 : decode cX8_describeRow 79 = .ok (.goto 25, 3) := by decide +kernel
theorem dX8_describeRow_82 : decode cX8_describeRow 82 = .ok (.aload_n 0, 1) := by decide +kernel
theorem dX8_describeRow_83 : decode cX8_describeRow 83 = .ok (.iload 4, 2) := by decide +kernel
theorem dX8_describeRow_85 : decode cX8_describeRow 85 = .ok (.invokevirtual 104, 3) := by decide +kernel
theorem dX8_describeRow_88 : decode cX8_describeRow 88 = .ok (.ifCond .eq 11, 3) := by decide +kernel
theorem dX8_describeRow_91 : decode cX8_describeRow 91 = .ok (.bipush 48, 2) := by decide +kernel
theorem dX8_describeRow_93 : decode cX8_describeRow 93 = .ok (.iload 4, 2) := by decide +kernel
theorem dX8_describeRow_95 : decode cX8_describeRow 95 = .ok (.iadd, 1) := by decide +kernel
theorem dX8_describeRow_96 : decode cX8_describeRow 96 = .ok (.goto 8, 3) := by decide +kernel
theorem dX8_describeRow_99 : decode cX8_describeRow 99 = .ok (.bipush 97, 2) := by decide +kernel
theorem dX8_describeRow_101 : decode cX8_describeRow 101 = .ok (.iload 4, 2) := by decide +kernel
theorem dX8_describeRow_103 : decode cX8_describeRow 103 = .ok (.iadd, 1) := by decide +kernel
theorem dX8_describeRow_104 : decode cX8_describeRow 104 = .ok (.iastore, 1) := by decide +kernel
theorem dX8_describeRow_105 : decode cX8_describeRow 105 = .ok (.iinc 2 1, 3) := by decide +kernel
theorem dX8_describeRow_108 : decode cX8_describeRow 108 = .ok (.goto (-78), 3) := by decide +kernel
theorem dX8_describeRow_111 : decode cX8_describeRow 111 = .ok (.aload_n 0, 1) := by decide +kernel
theorem dX8_describeRow_112 : decode cX8_describeRow 112 = .ok (.bipush 8, 2) := by decide +kernel
theorem dX8_describeRow_114 : decode cX8_describeRow 114 = .ok (.putfield 255, 3) := by decide +kernel
theorem dX8_describeRow_117 : decode cX8_describeRow 117 = .ok (.aload_n 0, 1) := by decide +kernel
theorem dX8_describeRow_118 : decode cX8_describeRow 118 = .ok (.getfield 255, 3) := by decide +kernel
theorem dX8_describeRow_121 : decode cX8_describeRow 121 = .ok (.ireturn, 1) := by decide +kernel
theorem dX8_lineAt_0 : decode cX8_lineAt 0 = .ok (.aload_n 0, 1) := by decide +kernel
theorem dX8_lineAt_1 : decode cX8_lineAt 1 = .ok (.iload_n 1, 1) := by decide +kernel
theorem dX8_lineAt_2 : decode cX8_lineAt 2 = .ok (.iconst 0, 1) := by decide +kernel
theorem dX8_lineAt_3 : decode cX8_lineAt 3 = .ok (.aload_n 0, 1) := by decide +kernel
theorem dX8_lineAt_4 : decode cX8_lineAt 4 = .ok (.getfield 255, 3) := by decide +kernel
theorem dX8_lineAt_7 : decode cX8_lineAt 7 = .ok (.iconst 1, 1) := by decide +kernel
theorem dX8_lineAt_8 : decode cX8_lineAt 8 = .ok (.isub, 1) := by decide +kernel
theorem dX8_lineAt_9 : decode cX8_lineAt 9 = .ok (.invokestatic 60, 3) := by decide +kernel
theorem dX8_lineAt_12 : decode cX8_lineAt 12 = .ok (.ifCond .eq 7, 3) := by decide +kernel
theorem dX8_lineAt_15 : decode cX8_lineAt 15 = .ok (.iconst 0, 1) := by decide +kernel
theorem dX8_lineAt_16 : decode cX8_lineAt 16 = .ok (.goto 4, 3) := by decide +kernel
theorem dX8_lineAt_19 : decode cX8_lineAt 19 = .ok (.iconst 1, 1) := by decide +kernel
theorem dX8_lineAt_20 : decode cX8_lineAt 20 = .ok (.putfield 50, 3) := by decide +kernel
theorem dX8_lineAt_23 : decode cX8_lineAt 23 = .ok (.aload_n 0, 1) := by decide +kernel
theorem dX8_lineAt_24 : decode cX8_lineAt 24 = .ok (.getfield 50, 3) := by decide +kernel
theorem dX8_lineAt_27 : decode cX8_lineAt 27 = .ok (.ifCond .ne 13, 3) := by decide +kernel
theorem dX8_lineAt_30 : decode cX8_lineAt 30 = .ok (.aload_n 0, 1) := by decide +kernel
theorem dX8_lineAt_31 : decode cX8_lineAt 31 = .ok (.getfield 38, 3) := by decide +kernel
theorem dX8_lineAt_34 : decode cX8_lineAt 34 = .ok (.iload_n 1, 1) := by decide +kernel
theorem dX8_lineAt_35 : decode cX8_lineAt 35 = .ok (.iaload, 1) := by decide +kernel
theorem dX8_lineAt_36 : decode cX8_lineAt 36 = .ok (.i2c, 1) := by decide +kernel
theorem dX8_lineAt_37 : decode cX8_lineAt 37 = .ok (.goto 5, 3) := by decide +kernel
theorem dX8_lineAt_40 : decode cX8_lineAt 40 = .ok (.bipush 97, 2) := by decide +kernel
theorem dX8_lineAt_42 : decode cX8_lineAt 42 = .ok (.ireturn, 1) := by decide +kernel
theorem dX8_meanBatteryBits_0 : decode cX8_meanBatteryBits 0 = .ok (.aload_n 0, 1) := by decide +kernel
theorem dX8_meanBatteryBits_1 : decode cX8_meanBatteryBits 1 = .ok (.aload_n 0, 1) := by decide +kernel
theorem dX8_meanBatteryBits_2 : decode cX8_meanBatteryBits 2 = .ok (.getfield 16, 3) := by decide +kernel
theorem dX8_meanBatteryBits_5 : decode cX8_meanBatteryBits 5 = .ok (.iconst 0, 1) := by decide +kernel
theorem dX8_meanBatteryBits_6 : decode cX8_meanBatteryBits 6 = .ok (.iaload, 1) := by decide +kernel
theorem dX8_meanBatteryBits_7 : decode cX8_meanBatteryBits 7 = .ok (.ifCond .ne 7, 3) := by decide +kernel
theorem dX8_meanBatteryBits_10 : decode cX8_meanBatteryBits 10 = .ok (.iconst 1, 1) := by decide +kernel
theorem dX8_meanBatteryBits_11 : decode cX8_meanBatteryBits 11 = .ok (.goto 4, 3) := by decide +kernel
theorem dX8_meanBatteryBits_14 : decode cX8_meanBatteryBits 14 = .ok (.iconst 0, 1) := by decide +kernel
theorem dX8_meanBatteryBits_15 : decode cX8_meanBatteryBits 15 = .ok (.putfield 50, 3) := by decide +kernel
theorem dX8_meanBatteryBits_18 : decode cX8_meanBatteryBits 18 = .ok (.iconst 0, 1) := by decide +kernel
theorem dX8_meanBatteryBits_19 : decode cX8_meanBatteryBits 19 = .ok (.istore_n 1, 1) := by decide +kernel
theorem dX8_meanBatteryBits_20 : decode cX8_meanBatteryBits 20 = .ok (.iconst 0, 1) := by decide +kernel
theorem dX8_meanBatteryBits_21 : decode cX8_meanBatteryBits 21 = .ok (.istore_n 2, 1) := by decide +kernel
theorem dX8_meanBatteryBits_22 : decode cX8_meanBatteryBits 22 = .ok (.iload_n 2, 1) := by decide +kernel
theorem dX8_meanBatteryBits_23 : decode cX8_meanBatteryBits 23 = .ok (.aload_n 0, 1) := by decide +kernel
theorem dX8_meanBatteryBits_24 : decode cX8_meanBatteryBits 24 = .ok (.getfield 16, 3) := by decide +kernel
theorem dX8_meanBatteryBits_27 : decode cX8_meanBatteryBits 27 = .ok (.iconst 0, 1) := by decide +kernel
theorem dX8_meanBatteryBits_28 : decode cX8_meanBatteryBits 28 = .ok (.iaload, 1) := by decide +kernel
theorem dX8_meanBatteryBits_29 : decode cX8_meanBatteryBits 29 = .ok (.if_icmp .ge 22, 3) := by decide +kernel
theorem dX8_meanBatteryBits_32 : decode cX8_meanBatteryBits 32 = .ok (.iload_n 1, 1) := by decide +kernel
theorem dX8_meanBatteryBits_33 : decode cX8_meanBatteryBits 33 = .ok (.aload_n 0, 1) := by decide +kernel
theorem dX8_meanBatteryBits_34 : decode cX8_meanBatteryBits 34 = .ok (.getfield 16, 3) := by decide +kernel
theorem dX8_meanBatteryBits_37 : decode cX8_meanBatteryBits 37 = .ok (.iload_n 2, 1) := by decide +kernel
theorem dX8_meanBatteryBits_38 : decode cX8_meanBatteryBits 38 = .ok (.iconst 2, 1) := by decide +kernel
theorem dX8_meanBatteryBits_39 : decode cX8_meanBatteryBits 39 = .ok (.invokestatic 64, 3) := by decide +kernel
theorem dX8_meanBatteryBits_42 : decode cX8_meanBatteryBits 42 = .ok (.iaload, 1) := by decide +kernel
theorem dX8_meanBatteryBits_43 : decode cX8_meanBatteryBits 43 = .ok (.iadd, 1) := by decide +kernel
theorem dX8_meanBatteryBits_44 : decode cX8_meanBatteryBits 44 = .ok (.istore_n 1, 1) := by decide +kernel
theorem dX8_meanBatteryBits_45 : decode cX8_meanBatteryBits 45 = .ok (.iinc 2 1, 3) := by decide +kernel
theorem dX8_meanBatteryBits_48 : decode cX8_meanBatteryBits 48 = .ok (.goto (-26), 3) := by decide +kernel
theorem dX8_meanBatteryBits_51 : decode cX8_meanBatteryBits 51 = .ok (.aload_n 0, 1) := by decide +kernel
theorem dX8_meanBatteryBits_52 : decode cX8_meanBatteryBits 52 = .ok (.getfield 50, 3) := by decide +kernel
theorem dX8_meanBatteryBits_55 : decode cX8_meanBatteryBits 55 = .ok (.ifCond .ne 19, 3) := by decide +kernel
theorem dX8_meanBatteryBits_58 : decode cX8_meanBatteryBits 58 = .ok (.iload_n 1, 1) := by decide +kernel
theorem dX8_meanBatteryBits_59 : decode cX8_meanBatteryBits 59 = .ok (.i2f, 1) := by decide +kernel
theorem dX8_meanBatteryBits_60 : decode cX8_meanBatteryBits 60 = .ok (.aload_n 0, 1) := by decide +kernel
theorem dX8_meanBatteryBits_61 : decode cX8_meanBatteryBits 61 = .ok (.getfield 16, 3) := by decide +kernel
theorem dX8_meanBatteryBits_64 : decode cX8_meanBatteryBits 64 = .ok (.iconst 0, 1) := by decide +kernel
theorem dX8_meanBatteryBits_65 : decode cX8_meanBatteryBits 65 = .ok (.iaload, 1) := by decide +kernel
theorem dX8_meanBatteryBits_66 : decode cX8_meanBatteryBits 66 = .ok (.i2f, 1) := by decide +kernel
theorem dX8_meanBatteryBits_67 : decode cX8_meanBatteryBits 67 = .ok (.fdiv, 1) := by decide +kernel
theorem dX8_meanBatteryBits_68 : decode cX8_meanBatteryBits 68 = .ok (.invokestatic 258, 3) := by decide +kernel
theorem dX8_meanBatteryBits_71 : decode cX8_meanBatteryBits 71 = .ok (.goto 4, 3) := by decide +kernel
theorem dX8_meanBatteryBits_74 : decode cX8_meanBatteryBits 74 = .ok (.iconst 0, 1) := by decide +kernel
theorem dX8_meanBatteryBits_75 : decode cX8_meanBatteryBits 75 = .ok (.ireturn, 1) := by decide +kernel
theorem dX8_meanDistance_0 : decode cX8_meanDistance 0 = .ok (.iconst 0, 1) := by decide +kernel
theorem dX8_meanDistance_1 : decode cX8_meanDistance 1 = .ok (.istore_n 1, 1) := by decide +kernel
theorem dX8_meanDistance_2 : decode cX8_meanDistance 2 = .ok (.iconst 0, 1) := by decide +kernel
theorem dX8_meanDistance_3 : decode cX8_meanDistance 3 = .ok (.istore_n 2, 1) := by decide +kernel
theorem dX8_meanDistance_4 : decode cX8_meanDistance 4 = .ok (.iconst 0, 1) := by decide +kernel
theorem dX8_meanDistance_5 : decode cX8_meanDistance 5 = .ok (.istore_n 3, 1) := by decide +kernel
theorem dX8_meanDistance_6 : decode cX8_meanDistance 6 = .ok (.iload_n 3, 1) := by decide +kernel
theorem dX8_meanDistance_7 : decode cX8_meanDistance 7 = .ok (.aload_n 0, 1) := by decide +kernel
theorem dX8_meanDistance_8 : decode cX8_meanDistance 8 = .ok (.getfield 16, 3) := by decide +kernel
theorem dX8_meanDistance_11 : decode cX8_meanDistance 11 = .ok (.iconst 0, 1) := by decide +kernel
theorem dX8_meanDistance_12 : decode cX8_meanDistance 12 = .ok (.iaload, 1) := by decide +kernel
theorem dX8_meanDistance_13 : decode cX8_meanDistance 13 = .ok (.if_icmp .ge 52, 3) := by decide +kernel
theorem dX8_meanDistance_16 : decode cX8_meanDistance 16 = .ok (.aload_n 0, 1) := by decide +kernel
theorem dX8_meanDistance_17 : decode cX8_meanDistance 17 = .ok (.iload_n 3, 1) := by decide +kernel
theorem dX8_meanDistance_18 : decode cX8_meanDistance 18 = .ok (.invokevirtual 104, 3) := by decide +kernel
theorem dX8_meanDistance_21 : decode cX8_meanDistance 21 = .ok (.ifCond .eq 38, 3) := by decide +kernel
theorem dX8_meanDistance_24 : decode cX8_meanDistance 24 = .ok (.aload_n 0, 1) := by decide +kernel
theorem dX8_meanDistance_25 : decode cX8_meanDistance 25 = .ok (.iload_n 3, 1) := by decide +kernel
theorem dX8_meanDistance_26 : decode cX8_meanDistance 26 = .ok (.invokevirtual 132, 3) := by decide +kernel
theorem dX8_meanDistance_29 : decode cX8_meanDistance 29 = .ok (.ifCond .ge 6, 3) := by decide +kernel
theorem dX8_meanDistance_32 : decode cX8_meanDistance 32 = .ok (.goto 27, 3) := by decide +kernel
theorem dX8_meanDistance_35 : decode cX8_meanDistance 35 = .ok (.iload_n 1, 1) := by decide +kernel
theorem dX8_meanDistance_36 : decode cX8_meanDistance 36 = .ok (.aload_n 0, 1) := by decide +kernel
theorem dX8_meanDistance_37 : decode cX8_meanDistance 37 = .ok (.getfield 16, 3) := by decide +kernel
theorem dX8_meanDistance_40 : decode cX8_meanDistance 40 = .ok (.iload_n 3, 1) := by decide +kernel
theorem dX8_meanDistance_41 : decode cX8_meanDistance 41 = .ok (.iconst 0, 1) := by decide +kernel
theorem dX8_meanDistance_42 : decode cX8_meanDistance 42 = .ok (.invokestatic 64, 3) := by decide +kernel
theorem dX8_meanDistance_45 : decode cX8_meanDistance 45 = .ok (.iaload, 1) := by decide +kernel
theorem dX8_meanDistance_46 : decode cX8_meanDistance 46 = .ok (.aload_n 0, 1) := by decide +kernel
theorem dX8_meanDistance_47 : decode cX8_meanDistance 47 = .ok (.iload_n 3, 1) := by decide +kernel
theorem dX8_meanDistance_48 : decode cX8_meanDistance 48 = .ok (.invokevirtual 132, 3) := by decide +kernel
theorem dX8_meanDistance_51 : decode cX8_meanDistance 51 = .ok (.invokestatic 120, 3) := by decide +kernel
theorem dX8_meanDistance_54 : decode cX8_meanDistance 54 = .ok (.iadd, 1) := by decide +kernel
theorem dX8_meanDistance_55 : decode cX8_meanDistance 55 = .ok (.istore_n 1, 1) := by decide +kernel
theorem dX8_meanDistance_56 : decode cX8_meanDistance 56 = .ok (.iinc 2 1, 3) := by decide +kernel
theorem dX8_meanDistance_59 : decode cX8_meanDistance 59 = .ok (.iinc 3 1, 3) := by decide +kernel
theorem dX8_meanDistance_62 : decode cX8_meanDistance 62 = .ok (.goto (-56), 3) := by decide +kernel
theorem dX8_meanDistance_65 : decode cX8_meanDistance 65 = .ok (.aload_n 0, 1) := by decide +kernel
theorem dX8_meanDistance_66 : decode cX8_meanDistance 66 = .ok (.iload_n 2, 1) := by decide +kernel
theorem dX8_meanDistance_67 : decode cX8_meanDistance 67 = .ok (.ifCond .ne 7, 3) := by decide +kernel
theorem dX8_meanDistance_70 : decode cX8_meanDistance 70 = .ok (.iconst 1, 1) := by decide +kernel
theorem dX8_meanDistance_71 : decode cX8_meanDistance 71 = .ok (.goto 4, 3) := by decide +kernel
theorem dX8_meanDistance_74 : decode cX8_meanDistance 74 = .ok (.iconst 0, 1) := by decide +kernel
theorem dX8_meanDistance_75 : decode cX8_meanDistance 75 = .ok (.putfield 50, 3) := by decide +kernel
theorem dX8_meanDistance_78 : decode cX8_meanDistance 78 = .ok (.aload_n 0, 1) := by decide +kernel
theorem dX8_meanDistance_79 : decode cX8_meanDistance 79 = .ok (.getfield 50, 3) := by decide +kernel
theorem dX8_meanDistance_82 : decode cX8_meanDistance 82 = .ok (.ifCond .ne 11, 3) := by decide +kernel
theorem dX8_meanDistance_85 : decode cX8_meanDistance 85 = .ok (.iload_n 1, 1) := by decide +kernel
theorem dX8_meanDistance_86 : decode cX8_meanDistance 86 = .ok (.i2d, 1) := by decide +kernel
theorem dX8_meanDistance_87 : decode cX8_meanDistance 87 = .ok (.iload_n 2, 1) := by decide +kernel
theorem dX8_meanDistance_88 : decode cX8_meanDistance 88 = .ok (.i2d, 1) := by decide +kernel
theorem dX8_meanDistance_89 : decode cX8_meanDistance 89 = .ok (.ddiv, 1) := by decide +kernel
theorem dX8_meanDistance_90 : decode cX8_meanDistance 90 = .ok (.goto 4, 3) := by decide +kernel
theorem dX8_meanDistance_93 : decode cX8_meanDistance 93 = .ok (.dconst 0, 1) := by decide +kernel
theorem dX8_meanDistance_94 : decode cX8_meanDistance 94 = .ok (.dreturn, 1) := by decide +kernel
theorem dX8_isConsistent_0 : decode cX8_isConsistent 0 = .ok (.aload_n 0, 1) := by decide +kernel
theorem dX8_isConsistent_1 : decode cX8_isConsistent 1 = .ok (.iconst 0, 1) := by decide +kernel
theorem dX8_isConsistent_2 : decode cX8_isConsistent 2 = .ok (.putfield 50, 3) := by decide +kernel
theorem dX8_isConsistent_5 : decode cX8_isConsistent 5 = .ok (.iconst 1, 1) := by decide +kernel
theorem dX8_isConsistent_6 : decode cX8_isConsistent 6 = .ok (.istore_n 1, 1) := by decide +kernel
theorem dX8_isConsistent_7 : decode cX8_isConsistent 7 = .ok (.iconst 0, 1) := by decide +kernel
theorem dX8_isConsistent_8 : decode cX8_isConsistent 8 = .ok (.istore_n 2, 1) := by decide +kernel
theorem dX8_isConsistent_9 : decode cX8_isConsistent 9 = .ok (.iload_n 2, 1) := by decide +kernel
theorem dX8_isConsistent_10 : decode cX8_isConsistent 10 = .ok (.aload_n 0, 1) := by decide +kernel
theorem dX8_isConsistent_11 : decode cX8_isConsistent 11 = .ok (.getfield 16, 3) := by decide +kernel
theorem dX8_isConsistent_14 : decode cX8_isConsistent 14 = .ok (.iconst 0, 1) := by decide +kernel
theorem dX8_isConsistent_15 : decode cX8_isConsistent 15 = .ok (.iaload, 1) := by decide +kernel
theorem dX8_isConsistent_16 : decode cX8_isConsistent 16 = .ok (.if_icmp .ge 35, 3) := by decide +kernel
theorem dX8_isConsistent_19 : decode cX8_isConsistent 19 = .ok (.iload_n 1, 1) := by decide +kernel
theorem dX8_isConsistent_20 : decode cX8_isConsistent 20 = .ok (.aload_n 0, 1) := by decide +kernel
theorem dX8_isConsistent_21 : decode cX8_isConsistent 21 = .ok (.aload_n 0, 1) := by decide +kernel
theorem dX8_isConsistent_22 : decode cX8_isConsistent 22 = .ok (.getfield 16, 3) := by decide +kernel
theorem dX8_isConsistent_25 : decode cX8_isConsistent 25 = .ok (.iload_n 2, 1) := by decide +kernel
theorem dX8_isConsistent_26 : decode cX8_isConsistent 26 = .ok (.iconst 0, 1) := by decide +kernel
theorem dX8_isConsistent_27 : decode cX8_isConsistent 27 = .ok (.invokestatic 64, 3) := by decide +kernel
theorem dX8_isConsistent_30 : decode cX8_isConsistent 30 = .ok (.iaload, 1) := by decide +kernel
theorem dX8_isConsistent_31 : decode cX8_isConsistent 31 = .ok (.invokevirtual 79, 3) := by decide +kernel
theorem dX8_isConsistent_34 : decode cX8_isConsistent 34 = .ok (.iload_n 2, 1) := by decide +kernel
theorem dX8_isConsistent_35 : decode cX8_isConsistent 35 = .ok (.if_icmp .ne 7, 3) := by decide +kernel
theorem dX8_isConsistent_38 : decode cX8_isConsistent 38 = .ok (.iconst 1, 1) := by decide +kernel
theorem dX8_isConsistent_39 : decode cX8_isConsistent 39 = .ok (.goto 4, 3) := by decide +kernel
theorem dX8_isConsistent_42 : decode cX8_isConsistent 42 = .ok (.iconst 0, 1) := by decide +kernel
theorem dX8_isConsistent_43 : decode cX8_isConsistent 43 = .ok (.iand, 1) := by decide +kernel
theorem dX8_isConsistent_44 : decode cX8_isConsistent 44 = .ok (.istore_n 1, 1) := by decide +kernel
theorem dX8_isConsistent_45 : decode cX8_isConsistent 45 = .ok (.iinc 2 1, 3) := by decide +kernel
theorem dX8_isConsistent_48 : decode cX8_isConsistent 48 = .ok (.goto (-39), 3) := by decide +kernel
theorem dX8_isConsistent_51 : decode cX8_isConsistent 51 = .ok (.iload_n 1, 1) := by decide +kernel
theorem dX8_isConsistent_52 : decode cX8_isConsistent 52 = .ok (.ireturn, 1) := by decide +kernel
theorem dX8_undo_0 : decode cX8_undo 0 = .ok (.aload_n 0, 1) := by decide +kernel
theorem dX8_undo_1 : decode cX8_undo 1 = .ok (.aload_n 0, 1) := by decide +kernel
theorem dX8_undo_2 : decode cX8_undo 2 = .ok (.getfield 57, 3) := by decide +kernel
theorem dX8_undo_5 : decode cX8_undo 5 = .ok (.ifCond .ne 7, 3) := by decide +kernel
theorem dX8_undo_8 : decode cX8_undo 8 = .ok (.iconst 1, 1) := by decide +kernel
theorem dX8_undo_9 : decode cX8_undo 9 = .ok (.goto 4, 3) := by decide +kernel
theorem dX8_undo_12 : decode cX8_undo 12 = .ok (.iconst 0, 1) := by decide +kernel
theorem dX8_undo_13 : decode cX8_undo 13 = .ok (.putfield 50, 3) := by decide +kernel
theorem dX8_undo_16 : decode cX8_undo 16 = .ok (.aload_n 0, 1) := by decide +kernel
theorem dX8_undo_17 : decode cX8_undo 17 = .ok (.getfield 50, 3) := by decide +kernel
theorem dX8_undo_20 : decode cX8_undo 20 = .ok (.ifCond .eq 5, 3) := by decide +kernel
theorem dX8_undo_23 : decode cX8_undo 23 = .ok (.iconst 0, 1) := by decide +kernel
theorem dX8_undo_24 : decode cX8_undo 24 = .ok (.ireturn, 1) := by decide +kernel
theorem dX8_undo_25 : decode cX8_undo 25 = .ok (.aload_n 0, 1) := by decide +kernel
theorem dX8_undo_26 : decode cX8_undo 26 = .ok (.dup, 1) := by decide +kernel
theorem dX8_undo_27 : decode cX8_undo 27 = .ok (.getfield 57, 3) := by decide +kernel
theorem dX8_undo_30 : decode cX8_undo 30 = .ok (.iconst 1, 1) := by decide +kernel
theorem dX8_undo_31 : decode cX8_undo 31 = .ok (.isub, 1) := by decide +kernel
theorem dX8_undo_32 : decode cX8_undo 32 = .ok (.putfield 57, 3) := by decide +kernel
theorem dX8_undo_35 : decode cX8_undo 35 = .ok (.iconst 0, 1) := by decide +kernel
theorem dX8_undo_36 : decode cX8_undo 36 = .ok (.istore_n 1, 1) := by decide +kernel
theorem dX8_undo_37 : decode cX8_undo 37 = .ok (.iload_n 1, 1) := by decide +kernel
theorem dX8_undo_38 : decode cX8_undo 38 = .ok (.bipush 117, 2) := by decide +kernel
theorem dX8_undo_40 : decode cX8_undo 40 = .ok (.if_icmp .ge 29, 3) := by decide +kernel
theorem dX8_undo_43 : decode cX8_undo 43 = .ok (.aload_n 0, 1) := by decide +kernel
theorem dX8_undo_44 : decode cX8_undo 44 = .ok (.getfield 16, 3) := by decide +kernel
theorem dX8_undo_47 : decode cX8_undo 47 = .ok (.iload_n 1, 1) := by decide +kernel
theorem dX8_undo_48 : decode cX8_undo 48 = .ok (.aload_n 0, 1) := by decide +kernel
theorem dX8_undo_49 : decode cX8_undo 49 = .ok (.getfield 29, 3) := by decide +kernel
theorem dX8_undo_52 : decode cX8_undo 52 = .ok (.aload_n 0, 1) := by decide +kernel
theorem dX8_undo_53 : decode cX8_undo 53 = .ok (.getfield 57, 3) := by decide +kernel
theorem dX8_undo_56 : decode cX8_undo 56 = .ok (.bipush 117, 2) := by decide +kernel
theorem dX8_undo_58 : decode cX8_undo 58 = .ok (.imul, 1) := by decide +kernel
theorem dX8_undo_59 : decode cX8_undo 59 = .ok (.iload_n 1, 1) := by decide +kernel
theorem dX8_undo_60 : decode cX8_undo 60 = .ok (.iadd, 1) := by decide +kernel
theorem dX8_undo_61 : decode cX8_undo 61 = .ok (.iaload, 1) := by decide +kernel
theorem dX8_undo_62 : decode cX8_undo 62 = .ok (.iastore, 1) := by decide +kernel
theorem dX8_undo_63 : decode cX8_undo 63 = .ok (.iinc 1 1, 3) := by decide +kernel
theorem dX8_undo_66 : decode cX8_undo 66 = .ok (.goto (-29), 3) := by decide +kernel
theorem dX8_undo_69 : decode cX8_undo 69 = .ok (.aload_n 0, 1) := by decide +kernel
theorem dX8_undo_70 : decode cX8_undo 70 = .ok (.getfield 57, 3) := by decide +kernel
theorem dX8_undo_73 : decode cX8_undo 73 = .ok (.ireturn, 1) := by decide +kernel
theorem dX8_save_0 : decode cX8_save 0 = .ok (.aload_n 0, 1) := by decide +kernel
theorem dX8_save_1 : decode cX8_save 1 = .ok (.iconst 0, 1) := by decide +kernel
theorem dX8_save_2 : decode cX8_save 2 = .ok (.putfield 50, 3) := by decide +kernel
theorem dX8_save_5 : decode cX8_save 5 = .ok (.aload_n 0, 1) := by decide +kernel
theorem dX8_save_6 : decode cX8_save 6 = .ok (.getfield 23, 3) := by decide +kernel
theorem dX8_save_9 : decode cX8_save 9 = .ok (.aload_n 0, 1) := by decide +kernel
theorem dX8_save_10 : decode cX8_save 10 = .ok (.getfield 16, 3) := by decide +kernel
theorem dX8_save_13 : decode cX8_save 13 = .ok (.invokestatic 53, 3) := by decide +kernel
theorem dX8_save_16 : decode cX8_save 16 = .ok (.aload_n 0, 1) := by decide +kernel
theorem dX8_save_17 : decode cX8_save 17 = .ok (.iconst 1, 1) := by decide +kernel
theorem dX8_save_18 : decode cX8_save 18 = .ok (.putfield 264, 3) := by decide +kernel
theorem dX8_save_21 : decode cX8_save 21 = .ok (.aload_n 0, 1) := by decide +kernel
theorem dX8_save_22 : decode cX8_save 22 = .ok (.getfield 16, 3) := by decide +kernel
theorem dX8_save_25 : decode cX8_save 25 = .ok (.iconst 0, 1) := by decide +kernel
theorem dX8_save_26 : decode cX8_save 26 = .ok (.iaload, 1) := by decide +kernel
theorem dX8_save_27 : decode cX8_save 27 = .ok (.ireturn, 1) := by decide +kernel
theorem dX8_restore_0 : decode cX8_restore 0 = .ok (.aload_n 0, 1) := by decide +kernel
theorem dX8_restore_1 : decode cX8_restore 1 = .ok (.aload_n 0, 1) := by decide +kernel
theorem dX8_restore_2 : decode cX8_restore 2 = .ok (.getfield 264, 3) := by decide +kernel
theorem dX8_restore_5 : decode cX8_restore 5 = .ok (.ifCond .eq 7, 3) := by decide +kernel
theorem dX8_restore_8 : decode cX8_restore 8 = .ok (.iconst 0, 1) := by decide +kernel
theorem dX8_restore_9 : decode cX8_restore 9 = .ok (.goto 4, 3) := by decide +kernel
theorem dX8_restore_12 : decode cX8_restore 12 = .ok (.iconst 1, 1) := by decide +kernel
theorem dX8_restore_13 : decode cX8_restore 13 = .ok (.putfield 50, 3) := by decide +kernel
theorem dX8_restore_16 : decode cX8_restore 16 = .ok (.aload_n 0, 1) := by decide +kernel
theorem dX8_restore_17 : decode cX8_restore 17 = .ok (.getfield 50, 3) := by decide +kernel
theorem dX8_restore_20 : decode cX8_restore 20 = .ok (.ifCond .eq 5, 3) := by decide +kernel
theorem dX8_restore_23 : decode cX8_restore 23 = .ok (.iconst 0, 1) := by decide +kernel
theorem dX8_restore_24 : decode cX8_restore 24 = .ok (.ireturn, 1) := by decide +kernel
theorem dX8_restore_25 : decode cX8_restore 25 = .ok (.aload_n 0, 1) := by decide +kernel
theorem dX8_restore_26 : decode cX8_restore 26 = .ok (.getfield 16, 3) := by decide +kernel
theorem dX8_restore_29 : decode cX8_restore 29 = .ok (.aload_n 0, 1) := by decide +kernel
theorem dX8_restore_30 : decode cX8_restore 30 = .ok (.getfield 23, 3) := by decide +kernel
theorem dX8_restore_33 : decode cX8_restore 33 = .ok (.invokestatic 53, 3) := by decide +kernel
theorem dX8_restore_36 : decode cX8_restore 36 = .ok (.aload_n 0, 1) := by decide +kernel
theorem dX8_restore_37 : decode cX8_restore 37 = .ok (.iconst 0, 1) := by decide +kernel
theorem dX8_restore_38 : decode cX8_restore 38 = .ok (.putfield 57, 3) := by decide +kernel
theorem dX8_restore_41 : decode cX8_restore 41 = .ok (.aload_n 0, 1) := by decide +kernel
theorem dX8_restore_42 : decode cX8_restore 42 = .ok (.getfield 16, 3) := by decide +kernel
theorem dX8_restore_45 : decode cX8_restore 45 = .ok (.iconst 0, 1) := by decide +kernel
theorem dX8_restore_46 : decode cX8_restore 46 = .ok (.iaload, 1) := by decide +kernel
theorem dX8_restore_47 : decode cX8_restore 47 = .ok (.ireturn, 1) := by decide +kernel
