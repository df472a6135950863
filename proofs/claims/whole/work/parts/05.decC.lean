theorem dX9_init_0 : decode cX9_init 0 = .ok (.aload_n 0, 1) := by decide +kernel
theorem dX9_init_1 : decode cX9_init 1 = .ok (.invokespecial 1, 3) := by decide +kernel
theorem dX9_init_4 : decode cX9_init 4 = .ok (.aload_n 0, 1) := by decide +kernel
theorem dX9_init_5 : decode cX9_init 5 = .ok (.iconst 1, 1) := by decide +kernel
theorem dX9_init_6 : decode cX9_init 6 = .ok (.putfield 7, 3) := by decide +kernel
theorem dX9_init_9 : decode cX9_init 9 = .ok (.aload_n 0, 1) := by decide +kernel
theorem dX9_init_10 : decode cX9_init 10 = .ok (.iconst 1, 1) := by decide +kernel
theorem dX9_init_11 : decode cX9_init 11 = .ok (.putfield 13, 3) := by decide +kernel
theorem dX9_init_14 : decode cX9_init 14 = .ok (.aload_n 0, 1) := by decide +kernel
theorem dX9_init_15 : decode cX9_init 15 = .ok (.iconst 1, 1) := by decide +kernel
theorem dX9_init_16 : decode cX9_init 16 = .ok (.putfield 16, 3) := by decide +kernel
theorem dX9_init_19 : decode cX9_init 19 = .ok (.aload_n 0, 1) := by decide +kernel
theorem dX9_init_20 : decode cX9_init 20 = .ok (.iconst (-1), 1) := by decide +kernel
theorem dX9_init_21 : decode cX9_init 21 = .ok (.putfield 19, 3) := by decide +kernel
theorem dX9_init_24 : decode cX9_init 24 = .ok (.aload_n 0, 1) := by decide +kernel
theorem dX9_init_25 : decode cX9_init 25 = .ok (.bipush 8, 2) := by decide +kernel
theorem dX9_init_27 : decode cX9_init 27 = .ok (.newarray .int, 2) := by decide +kernel
theorem dX9_init_29 : decode cX9_init 29 = .ok (.putfield 22, 3) := by decide +kernel
theorem dX9_init_32 : decode cX9_init 32 = .ok (.aload_n 0, 1) := by decide +kernel
theorem dX9_init_33 : decode cX9_init 33 = .ok (.bipush 8, 2) := by decide +kernel
theorem dX9_init_35 : decode cX9_init 35 = .ok (.newarray .int, 2) := by decide +kernel
theorem dX9_init_37 : decode cX9_init 37 = .ok (.putfield 26, 3) := by decide +kernel
theorem dX9_init_40 : decode cX9_init 40 = .ok (.aload_n 0, 1) := by decide +kernel
theorem dX9_init_41 : decode cX9_init 41 = .ok (.bipush 8, 2) := by decide +kernel
theorem dX9_init_43 : decode cX9_init 43 = .ok (.newarray .int, 2) := by decide +kernel
theorem dX9_init_45 : decode cX9_init 45 = .ok (.putfield 29, 3) := by decide +kernel
theorem dX9_init_48 : decode cX9_init 48 = .ok (.aload_n 0, 1) := by decide +kernel
theorem dX9_init_49 : decode cX9_init 49 = .ok (.bipush 8, 2) := by decide +kernel
theorem dX9_init_51 : decode cX9_init 51 = .ok (.newarray .int, 2) := by decide +kernel
theorem dX9_init_53 : decode cX9_init 53 = .ok (.putfield 32, 3) := by decide +kernel
theorem dX9_init_56 : decode cX9_init 56 = .ok (.aload_n 0, 1) := by decide +kernel
theorem dX9_init_57 : decode cX9_init 57 = .ok (.bipush 8, 2) := by decide +kernel
theorem dX9_init_59 : decode cX9_init 59 = .ok (.newarray .int, 2) := by decide +kernel
theorem dX9_init_61 : decode cX9_init 61 = .ok (.putfield 35, 3) := by decide +kernel
theorem dX9_init_64 : decode cX9_init 64 = .ok (.aload_n 0, 1) := by decide +kernel
theorem dX9_init_65 : decode cX9_init 65 = .ok (.bipush 16, 2) := by decide +kernel
theorem dX9_init_67 : decode cX9_init 67 = .ok (.newarray .int, 2) := by decide +kernel
theorem dX9_init_69 : decode cX9_init 69 = .ok (.putfield 38, 3) := by decide +kernel
theorem dX9_init_72 : decode cX9_init 72 = .ok (.aload_n 0, 1) := by decide +kernel
theorem dX9_init_73 : decode cX9_init 73 = .ok (.bipush 16, 2) := by decide +kernel
theorem dX9_init_75 : decode cX9_init 75 = .ok (.newarray .int, 2) := by decide +kernel
theorem dX9_init_77 : decode cX9_init 77 = .ok (.putfield 41, 3) := by decide +kernel
theorem dX9_init_80 : decode cX9_init 80 = .ok (.aload_n 0, 1) := by decide +kernel
theorem dX9_init_81 : decode cX9_init 81 = .ok (.bipush 8, 2) := by decide +kernel
theorem dX9_init_83 : decode cX9_init 83 = .ok (.newarray .int, 2) := by decide +kernel
theorem dX9_init_85 : decode cX9_init 85 = .ok (.putfield 44, 3) := by decide +kernel
theorem dX9_init_88 : decode cX9_init 88 = .ok (.aload_n 0, 1) := by decide +kernel
theorem dX9_init_89 : decode cX9_init 89 = .ok (.bipush 8, 2) := by decide +kernel
theorem dX9_init_91 : decode cX9_init 91 = .ok (.newarray .int, 2) := by decide +kernel
theorem dX9_init_93 : decode cX9_init 93 = .ok (.putfield 47, 3) := by decide +kernel
theorem dX9_init_96 : decode cX9_init 96 = .ok (.aload_n 0, 1) := by decide +kernel
theorem dX9_init_97 : decode cX9_init 97 = .ok (.bipush 8, 2) := by decide +kernel
theorem dX9_init_99 : decode cX9_init 99 = .ok (.newarray .int, 2) := by decide +kernel
theorem dX9_init_101 : decode cX9_init 101 = .ok (.putfield 50, 3) := by decide +kernel
theorem dX9_init_104 : decode cX9_init 104 = .ok (.aload_n 0, 1) := by decide +kernel
theorem dX9_init_105 : decode cX9_init 105 = .ok (.bipush 8, 2) := by decide +kernel
theorem dX9_init_107 : decode cX9_init 107 = .ok (.newarray .int, 2) := by decide +kernel
theorem dX9_init_109 : decode cX9_init 109 = .ok (.putfield 53, 3) := by decide +kernel
theorem dX9_init_112 : decode cX9_init 112 = .ok (.aload_n 0, 1) := by decide +kernel
theorem dX9_init_113 : decode cX9_init 113 = .ok (.sipush 1280, 3) := by decide +kernel
theorem dX9_init_116 : decode cX9_init 116 = .ok (.newarray .long, 2) := by decide +kernel
theorem dX9_init_118 : decode cX9_init 118 = .ok (.putfield 56, 3) := by decide +kernel
theorem dX9_init_121 : decode cX9_init 121 = .ok (.aload_n 0, 1) := by decide +kernel
theorem dX9_init_122 : decode cX9_init 122 = .ok (.sipush 160, 3) := by decide +kernel
theorem dX9_init_125 : decode cX9_init 125 = .ok (.newarray .long, 2) := by decide +kernel
theorem dX9_init_127 : decode cX9_init 127 = .ok (.putfield 60, 3) := by decide +kernel
theorem dX9_init_130 : decode cX9_init 130 = .ok (.aload_n 0, 1) := by decide +kernel
theorem dX9_init_131 : decode cX9_init 131 = .ok (.bipush 45, 2) := by decide +kernel
theorem dX9_init_133 : decode cX9_init 133 = .ok (.newarray .int, 2) := by decide +kernel
theorem dX9_init_135 : decode cX9_init 135 = .ok (.dup, 1) := by decide +kernel
theorem dX9_init_136 : decode cX9_init 136 = .ok (.iconst 0, 1) := by decide +kernel
theorem dX9_init_137 : decode cX9_init 137 = .ok (.bipush 115, 2) := by decide +kernel
theorem dX9_init_139 : decode cX9_init 139 = .ok (.iastore, 1) := by decide +kernel
theorem dX9_init_140 : decode cX9_init 140 = .ok (.dup, 1) := by decide +kernel
theorem dX9_init_141 : decode cX9_init 141 = .ok (.iconst 1, 1) := by decide +kernel
theorem dX9_init_142 : decode cX9_init 142 = .ok (.bipush 105, 2) := by decide +kernel
theorem dX9_init_144 : decode cX9_init 144 = .ok (.iastore, 1) := by decide +kernel
theorem dX9_init_145 : decode cX9_init 145 = .ok (.dup, 1) := by decide +kernel
theorem dX9_init_146 : decode cX9_init 146 = .ok (.iconst 2, 1) := by decide +kernel
theorem dX9_init_147 : decode cX9_init 147 = .ok (.bipush 110, 2) := by decide +kernel
theorem dX9_init_149 : decode cX9_init 149 = .ok (.iastore, 1) := by decide +kernel
theorem dX9_init_150 : decode cX9_init 150 = .ok (.dup, 1) := by decide +kernel
theorem dX9_init_151 : decode cX9_init 151 = .ok (.iconst 3, 1) := by decide +kernel
theorem dX9_init_152 : decode cX9_init 152 = .ok (.bipush 103, 2) := by decide +kernel
theorem dX9_init_154 : decode cX9_init 154 = .ok (.iastore, 1) := by decide +kernel
theorem dX9_init_155 : decode cX9_init 155 = .ok (.dup, 1) := by decide +kernel
theorem dX9_init_156 : decode cX9_init 156 = .ok (.iconst 4, 1) := by decide +kernel
theorem dX9_init_157 : decode cX9_init 157 = .ok (.bipush 101, 2) := by decide +kernel
theorem dX9_init_159 : decode cX9_init 159 = .ok (.iastore, 1) := by decide +kernel
theorem dX9_init_160 : decode cX9_init 160 = .ok (.dup, 1) := by decide +kernel
theorem dX9_init_161 : decode cX9_init 161 = .ok (.iconst 5, 1) := by decide +kernel
theorem dX9_init_162 : decode cX9_init 162 = .ok (.bipush 114, 2) := by decide +kernel
theorem dX9_init_164 : decode cX9_init 164 = .ok (.iastore, 1) := by decide +kernel
theorem dX9_init_165 : decode cX9_init 165 = .ok (.dup, 1) := by decide +kernel
theorem dX9_init_166 : decode cX9_init 166 = .ok (.bipush 6, 2) := by decide +kernel
theorem dX9_init_168 : decode cX9_init 168 = .ok (.bipush 32, 2) := by decide +kernel
theorem dX9_init_170 : decode cX9_init 170 = .ok (.iastore, 1) := by decide +kernel
theorem dX9_init_171 : decode cX9_init 171 = .ok (.dup, 1) := by decide +kernel
theorem dX9_init_172 : decode cX9_init 172 = .ok (.bipush 7, 2) := by decide +kernel
theorem dX9_init_174 : decode cX9_init 174 = .ok (.iconst 0, 1) := by decide +kernel
theorem dX9_init_175 : decode cX9_init 175 = .ok (.iastore, 1) := by decide +kernel
theorem dX9_init_176 : decode cX9_init 176 = .ok (.dup, 1) := by decide +kernel
theorem dX9_init_177 : decode cX9_init 177 = .ok (.bipush 8, 2) := by decide +kernel
theorem dX9_init_179 : decode cX9_init 179 = .ok (.bipush 109, 2) := by decide +kernel
theorem dX9_init_181 : decode cX9_init 181 = .ok (.iastore, 1) := by decide +kernel
theorem dX9_init_182 : decode cX9_init 182 = .ok (.dup, 1) := by decide +kernel
theorem dX9_init_183 : decode cX9_init 183 = .ok (.bipush 9, 2) := by decide +kernel
theorem dX9_init_185 : decode cX9_init 185 = .ok (.bipush 111, 2) := by decide +kernel
theorem dX9_init_187 : decode cX9_init 187 = .ok (.iastore, 1) := by decide +kernel
theorem dX9_init_188 : decode cX9_init 188 = .ok (.dup, 1) := by decide +kernel
theorem dX9_init_189 : decode cX9_init 189 = .ok (.bipush 10, 2) := by decide +kernel
theorem dX9_init_191 : decode cX9_init 191 = .ok (.bipush 115, 2) := by decide +kernel
theorem dX9_init_193 : decode cX9_init 193 = .ok (.iastore, 1) := by decide +kernel
theorem dX9_init_194 : decode cX9_init 194 = .ok (.dup, 1) := by decide +kernel
theorem dX9_init_195 : decode cX9_init 195 = .ok (.bipush 11, 2) := by decide +kernel
theorem dX9_init_197 : decode cX9_init 197 = .ok (.bipush 116, 2) := by decide +kernel
theorem dX9_init_199 : decode cX9_init 199 = .ok (.iastore, 1) := by decide +kernel
theorem dX9_init_200 : decode cX9_init 200 = .ok (.dup, 1) := by decide +kernel
theorem dX9_init_201 : decode cX9_init 201 = .ok (.bipush 12, 2) := by decide +kernel
theorem dX9_init_203 : decode cX9_init 203 = .ok (.bipush 32, 2) := by decide +kernel
theorem dX9_init_205 : decode cX9_init 205 = .ok (.iastore, 1) := by decide +kernel
theorem dX9_init_206 : decode cX9_init 206 = .ok (.dup, 1) := by decide +kernel
theorem dX9_init_207 : decode cX9_init 207 = .ok (.bipush 13, 2) := by decide +kernel
theorem dX9_init_209 : decode cX9_init 209 = .ok (.iconst 0, 1) := by decide +kernel
theorem dX9_init_210 : decode cX9_init 210 = .ok (.iastore, 1) := by decide +kernel
theorem dX9_init_211 : decode cX9_init 211 = .ok (.dup, 1) := by decide +kernel
theorem dX9_init_212 : decode cX9_init 212 = .ok (.bipush 14, 2) := by decide +kernel
theorem dX9_init_214 : decode cX9_init 214 = .ok (.bipush 108, 2) := by decide +kernel
theorem dX9_init_216 : decode cX9_init 216 = .ok (.iastore, 1) := by decide +kernel
theorem dX9_init_217 : decode cX9_init 217 = .ok (.dup, 1) := by decide +kernel
theorem dX9_init_218 : decode cX9_init 218 = .ok (.bipush 15, 2) := by decide +kernel
theorem dX9_init_220 : decode cX9_init 220 = .ok (.bipush 101, 2) := by decide +kernel
theorem dX9_init_222 : decode cX9_init 222 = .ok (.iastore, 1) := by decide +kernel
theorem dX9_init_223 : decode cX9_init 223 = .ok (.dup, 1) := by decide +kernel
theorem dX9_init_224 : decode cX9_init 224 = .ok (.bipush 16, 2) := by decide +kernel
theorem dX9_init_226 : decode cX9_init 226 = .ok (.bipush 97, 2) := by decide +kernel
theorem dX9_init_228 : decode cX9_init 228 = .ok (.iastore, 1) := by decide +kernel
theorem dX9_init_229 : decode cX9_init 229 = .ok (.dup, 1) := by decide +kernel
theorem dX9_init_230 : decode cX9_init 230 = .ok (.bipush 17, 2) := by decide +kernel
theorem dX9_init_232 : decode cX9_init 232 = .ok (.bipush 115, 2) := by decide +kernel
theorem dX9_init_234 : decode cX9_init 234 = .ok (.iastore, 1) := by decide +kernel
theorem dX9_init_235 : decode cX9_init 235 = .ok (.dup, 1) := by decide +kernel
theorem dX9_init_236 : decode cX9_init 236 = .ok (.bipush 18, 2) := by decide +kernel
theorem dX9_init_238 : decode cX9_init 238 = .ok (.bipush 116, 2) := by decide +kernel
theorem dX9_init_240 : decode cX9_init 240 = .ok (.iastore, 1) := by decide +kernel
theorem dX9_init_241 : decode cX9_init 241 = .ok (.dup, 1) := by decide +kernel
theorem dX9_init_242 : decode cX9_init 242 = .ok (.bipush 19, 2) := by decide +kernel
theorem dX9_init_244 : decode cX9_init 244 = .ok (.bipush 32, 2) := by decide +kernel
theorem dX9_init_246 : decode cX9_init 246 = .ok (.iastore, 1) := by decide +kernel
theorem dX9_init_247 : decode cX9_init 247 = .ok (.dup, 1) := by decide +kernel
theorem dX9_init_248 : decode cX9_init 248 = .ok (.bipush 20, 2) := by decide +kernel
theorem dX9_init_250 : decode cX9_init 250 = .ok (.iconst 0, 1) := by decide +kernel
theorem dX9_init_251 : decode cX9_init 251 = .ok (.iastore, 1) := by decide +kernel
theorem dX9_init_252 : decode cX9_init 252 = .ok (.dup, 1) := by decide +kernel
theorem dX9_init_253 : decode cX9_init 253 = .ok (.bipush 21, 2) := by decide +kernel
theorem dX9_init_255 : decode cX9_init 255 = .ok (.bipush 110, 2) := by decide +kernel
theorem dX9_init_257 : decode cX9_init 257 = .ok (.iastore, 1) := by decide +kernel
theorem dX9_init_258 : decode cX9_init 258 = .ok (.dup, 1) := by decide +kernel
theorem dX9_init_259 : decode cX9_init 259 = .ok (.bipush 22, 2) := by decide +kernel
theorem dX9_init_261 : decode cX9_init 261 = .ok (.bipush 101, 2) := by decide +kernel
theorem dX9_init_263 : decode cX9_init 263 = .ok (.iastore, 1) := by decide +kernel
theorem dX9_init_264 : decode cX9_init 264 = .ok (.dup, 1) := by decide +kernel
theorem dX9_init_265 : decode cX9_init 265 = .ok (.bipush 23, 2) := by decide +kernel
theorem dX9_init_267 : decode cX9_init 267 = .ok (.bipush 97, 2) := by decide +kernel
theorem dX9_init_269 : decode cX9_init 269 = .ok (.iastore, 1) := by decide +kernel
theorem dX9_init_270 : decode cX9_init 270 = .ok (.dup, 1) := by decide +kernel
theorem dX9_init_271 : decode cX9_init 271 = .ok (.bipush 24, 2) := by decide +kernel
theorem dX9_init_273 : decode cX9_init 273 = .ok (.bipush 114, 2) := by decide +kernel
theorem dX9_init_275 : decode cX9_init 275 = .ok (.iastore, 1) := by decide +kernel
theorem dX9_init_276 : decode cX9_init 276 = .ok (.dup, 1) := by decide +kernel
theorem dX9_init_277 : decode cX9_init 277 = .ok (.bipush 25, 2) := by decide +kernel
theorem dX9_init_279 : decode cX9_init 279 = .ok (.bipush 32, 2) := by decide +kernel
theorem dX9_init_281 : decode cX9_init 281 = .ok (.iastore, 1) := by decide +kernel
theorem dX9_init_282 : decode cX9_init 282 = .ok (.dup, 1) := by decide +kernel
theorem dX9_init_283 : decode cX9_init 283 = .ok (.bipush 26, 2) := by decide +kernel
theorem dX9_init_285 : decode cX9_init 285 = .ok (.iconst 0, 1) := by decide +kernel
theorem dX9_init_286 : decode cX9_init 286 = .ok (.iastore, 1) := by decide +kernel
theorem dX9_init_287 : decode cX9_init 287 = .ok (.dup, 1) := by decide +kernel
theorem dX9_init_288 : decode cX9_init 288 = .ok (.bipush 27, 2) := by decide +kernel
theorem dX9_init_290 : decode cX9_init 290 = .ok (.bipush 101, 2) := by decide +kernel
theorem dX9_init_292 : decode cX9_init 292 = .ok (.iastore, 1) := by decide +kernel
theorem dX9_init_293 : decode cX9_init 293 = .ok (.dup, 1) := by decide +kernel
theorem dX9_init_294 : decode cX9_init 294 = .ok (.bipush 28, 2) := by decide +kernel
theorem dX9_init_296 : decode cX9_init 296 = .ok (.bipush 97, 2) := by decide +kernel
theorem dX9_init_298 : decode cX9_init 298 = .ok (.iastore, 1) := by decide +kernel
theorem dX9_init_299 : decode cX9_init 299 = .ok (.dup, 1) := by decide +kernel
theorem dX9_init_300 : decode cX9_init 300 = .ok (.bipush 29, 2) := by decide +kernel
theorem dX9_init_302 : decode cX9_init 302 = .ok (.bipush 114, 2) := by decide +kernel
theorem dX9_init_304 : decode cX9_init 304 = .ok (.iastore, 1) := by decide +kernel
theorem dX9_init_305 : decode cX9_init 305 = .ok (.dup, 1) := by decide +kernel
theorem dX9_init_306 : decode cX9_init 306 = .ok (.bipush 30, 2) := by decide +kernel
theorem dX9_init_308 : decode cX9_init 308 = .ok (.bipush 32, 2) := by decide +kernel
theorem dX9_init_310 : decode cX9_init 310 = .ok (.iastore, 1) := by decide +kernel
theorem dX9_init_311 : decode cX9_init 311 = .ok (.dup, 1) := by decide +kernel
theorem dX9_init_312 : decode cX9_init 312 = .ok (.bipush 31, 2) := by decide +kernel
theorem dX9_init_314 : decode cX9_init 314 = .ok (.iconst 0, 1) := by decide +kernel
theorem dX9_init_315 : decode cX9_init 315 = .ok (.iastore, 1) := by decide +kernel
theorem dX9_init_316 : decode cX9_init 316 = .ok (.dup, 1) := by decide +kernel
theorem dX9_init_317 : decode cX9_init 317 = .ok (.bipush 32, 2) := by decide +kernel
theorem dX9_init_319 : decode cX9_init 319 = .ok (.bipush 104, 2) := by decide +kernel
theorem dX9_init_321 : decode cX9_init 321 = .ok (.iastore, 1) := by decide +kernel
theorem dX9_init_322 : decode cX9_init 322 = .ok (.dup, 1) := by decide +kernel
theorem dX9_init_323 : decode cX9_init 323 = .ok (.bipush 33, 2) := by decide +kernel
theorem dX9_init_325 : decode cX9_init 325 = .ok (.bipush 101, 2) := by decide +kernel
theorem dX9_init_327 : decode cX9_init 327 = .ok (.iastore, 1) := by decide +kernel
theorem dX9_init_328 : decode cX9_init 328 = .ok (.dup, 1) := by decide +kernel
theorem dX9_init_329 : decode cX9_init 329 = .ok (.bipush 34, 2) := by decide +kernel
theorem dX9_init_331 : decode cX9_init 331 = .ok (.bipush 97, 2) := by decide +kernel
theorem dX9_init_333 : decode cX9_init 333 = .ok (.iastore, 1) := by decide +kernel
theorem dX9_init_334 : decode cX9_init 334 = .ok (.dup, 1) := by decide +kernel
theorem dX9_init_335 : decode cX9_init 335 = .ok (.bipush 35, 2) := by decide +kernel
theorem dX9_init_337 : decode cX9_init 337 = .ok (.bipush 114, 2) := by decide +kernel
theorem dX9_init_339 : decode cX9_init 339 = .ok (.iastore, 1) := by decide +kernel
theorem dX9_init_340 : decode cX9_init 340 = .ok (.dup, 1) := by decide +kernel
theorem dX9_init_341 : decode cX9_init 341 = .ok (.bipush 36, 2) := by decide +kernel
theorem dX9_init_343 : decode cX9_init 343 = .ok (.bipush 100, 2) := by decide +kernel
theorem dX9_init_345 : decode cX9_init 345 = .ok (.iastore, 1) := by decide +kernel
theorem dX9_init_346 : decode cX9_init 346 = .ok (.dup, 1) := by decide +kernel
theorem dX9_init_347 : decode cX9_init 347 = .ok (.bipush 37, 2) := by decide +kernel
theorem dX9_init_349 : decode cX9_init 349 = .ok (.bipush 32, 2) := by decide +kernel
theorem dX9_init_351 : decode cX9_init 351 = .ok (.iastore, 1) := by decide +kernel
theorem dX9_init_352 : decode cX9_init 352 = .ok (.dup, 1) := by decide +kernel
theorem dX9_init_353 : decode cX9_init 353 = .ok (.bipush 38, 2) := by decide +kernel
theorem dX9_init_355 : decode cX9_init 355 = .ok (.iconst 0, 1) := by decide +kernel
theorem dX9_init_356 : decode cX9_init 356 = .ok (.iastore, 1) := by decide +kernel
theorem dX9_init_357 : decode cX9_init 357 = .ok (.dup, 1) := by decide +kernel
theorem dX9_init_358 : decode cX9_init 358 = .ok (.bipush 39, 2) := by decide +kernel
theorem dX9_init_360 : decode cX9_init 360 = .ok (.bipush 115, 2) := by decide +kernel
theorem dX9_init_362 : decode cX9_init 362 = .ok (.iastore, 1) := by decide +kernel
theorem dX9_init_363 : decode cX9_init 363 = .ok (.dup, 1) := by decide +kernel
theorem dX9_init_364 : decode cX9_init 364 = .ok (.bipush 40, 2) := by decide +kernel
theorem dX9_init_366 : decode cX9_init 366 = .ok (.bipush 119, 2) := by decide +kernel
theorem dX9_init_368 : decode cX9_init 368 = .ok (.iastore, 1) := by decide +kernel
theorem dX9_init_369 : decode cX9_init 369 = .ok (.dup, 1) := by decide +kernel
theorem dX9_init_370 : decode cX9_init 370 = .ok (.bipush 41, 2) := by decide +kernel
theorem dX9_init_372 : decode cX9_init 372 = .ok (.bipush 97, 2) := by decide +kernel
theorem dX9_init_374 : decode cX9_init 374 = .ok (.iastore, 1) := by decide +kernel
theorem dX9_init_375 : decode cX9_init 375 = .ok (.dup, 1) := by decide +kernel
theorem dX9_init_376 : decode cX9_init 376 = .ok (.bipush 42, 2) := by decide +kernel
theorem dX9_init_378 : decode cX9_init 378 = .ok (.bipush 112, 2) := by decide +kernel
theorem dX9_init_380 : decode cX9_init 380 = .ok (.iastore, 1) := by decide +kernel
theorem dX9_init_381 : decode cX9_init 381 = .ok (.dup, 1) := by decide +kernel
theorem dX9_init_382 : decode cX9_init 382 = .ok (.bipush 43, 2) := by decide +kernel
theorem dX9_init_384 : decode cX9_init 384 = .ok (.bipush 32, 2) := by decide +kernel
theorem dX9_init_386 : decode cX9_init 386 = .ok (.iastore, 1) := by decide +kernel
theorem dX9_init_387 : decode cX9_init 387 = .ok (.dup, 1) := by decide +kernel
theorem dX9_init_388 : decode cX9_init 388 = .ok (.bipush 44, 2) := by decide +kernel
theorem dX9_init_390 : decode cX9_init 390 = .ok (.iconst 0, 1) := by decide +kernel
theorem dX9_init_391 : decode cX9_init 391 = .ok (.iastore, 1) := by decide +kernel
theorem dX9_init_392 : decode cX9_init 392 = .ok (.putfield 63, 3) := by decide +kernel
theorem dX9_init_395 : decode cX9_init 395 = .ok (.aload_n 0, 1) := by decide +kernel
theorem dX9_init_396 : decode cX9_init 396 = .ok (.bipush 7, 2) := by decide +kernel
theorem dX9_init_398 : decode cX9_init 398 = .ok (.newarray .int, 2) := by decide +kernel
theorem dX9_init_400 : decode cX9_init 400 = .ok (.dup, 1) := by decide +kernel
theorem dX9_init_401 : decode cX9_init 401 = .ok (.iconst 0, 1) := by decide +kernel
theorem dX9_init_402 : decode cX9_init 402 = .ok (.iconst 3, 1) := by decide +kernel
theorem dX9_init_403 : decode cX9_init 403 = .ok (.iastore, 1) := by decide +kernel
theorem dX9_init_404 : decode cX9_init 404 = .ok (.dup, 1) := by decide +kernel
theorem dX9_init_405 : decode cX9_init 405 = .ok (.iconst 1, 1) := by decide +kernel
theorem dX9_init_406 : decode cX9_init 406 = .ok (.iconst 1, 1) := by decide +kernel
theorem dX9_init_407 : decode cX9_init 407 = .ok (.iastore, 1) := by decide +kernel
theorem dX9_init_408 : decode cX9_init 408 = .ok (.dup, 1) := by decide +kernel
theorem dX9_init_409 : decode cX9_init 409 = .ok (.iconst 2, 1) := by decide +kernel
theorem dX9_init_410 : decode cX9_init 410 = .ok (.iconst 1, 1) := by decide +kernel
theorem dX9_init_411 : decode cX9_init 411 = .ok (.iastore, 1) := by decide +kernel
theorem dX9_init_412 : decode cX9_init 412 = .ok (.dup, 1) := by decide +kernel
theorem dX9_init_413 : decode cX9_init 413 = .ok (.iconst 3, 1) := by decide +kernel
theorem dX9_init_414 : decode cX9_init 414 = .ok (.iconst 1, 1) := by decide +kernel
theorem dX9_init_415 : decode cX9_init 415 = .ok (.iastore, 1) := by decide +kernel
theorem dX9_init_416 : decode cX9_init 416 = .ok (.dup, 1) := by decide +kernel
theorem dX9_init_417 : decode cX9_init 417 = .ok (.iconst 4, 1) := by decide +kernel
theorem dX9_init_418 : decode cX9_init 418 = .ok (.iconst 1, 1) := by decide +kernel
theorem dX9_init_419 : decode cX9_init 419 = .ok (.iastore, 1) := by decide +kernel
theorem dX9_init_420 : decode cX9_init 420 = .ok (.dup, 1) := by decide +kernel
theorem dX9_init_421 : decode cX9_init 421 = .ok (.iconst 5, 1) := by decide +kernel
theorem dX9_init_422 : decode cX9_init 422 = .ok (.iconst 2, 1) := by decide +kernel
theorem dX9_init_423 : decode cX9_init 423 = .ok (.iastore, 1) := by decide +kernel
theorem dX9_init_424 : decode cX9_init 424 = .ok (.dup, 1) := by decide +kernel
theorem dX9_init_425 : decode cX9_init 425 = .ok (.bipush 6, 2) := by decide +kernel
theorem dX9_init_427 : decode cX9_init 427 = .ok (.iconst 2, 1) := by decide +kernel
theorem dX9_init_428 : decode cX9_init 428 = .ok (.iastore, 1) := by decide +kernel
theorem dX9_init_429 : decode cX9_init 429 = .ok (.putfield 66, 3) := by decide +kernel
theorem dX9_init_432 : decode cX9_init 432 = .ok (.aload_n 0, 1) := by decide +kernel
theorem dX9_init_433 : decode cX9_init 433 = .ok (.iconst 3, 1) := by decide +kernel
theorem dX9_init_434 : decode cX9_init 434 = .ok (.newarray .int, 2) := by decide +kernel
theorem dX9_init_436 : decode cX9_init 436 = .ok (.putfield 69, 3) := by decide +kernel
theorem dX9_init_439 : decode cX9_init 439 = .ok (.aload_n 0, 1) := by decide +kernel
theorem dX9_init_440 : decode cX9_init 440 = .ok (.bipush 80, 2) := by decide +kernel
theorem dX9_init_442 : decode cX9_init 442 = .ok (.newarray .int, 2) := by decide +kernel
theorem dX9_init_444 : decode cX9_init 444 = .ok (.putfield 72, 3) := by decide +kernel
theorem dX9_init_447 : decode cX9_init 447 = .ok (.aload_n 0, 1) := by decide +kernel
theorem dX9_init_448 : decode cX9_init 448 = .ok (.bipush 80, 2) := by decide +kernel
theorem dX9_init_450 : decode cX9_init 450 = .ok (.newarray .int, 2) := by decide +kernel
theorem dX9_init_452 : decode cX9_init 452 = .ok (.putfield 75, 3) := by decide +kernel
theorem dX9_init_455 : decode cX9_init 455 = .ok (.aload_n 0, 1) := by decide +kernel
theorem dX9_init_456 : decode cX9_init 456 = .ok (.bipush 92, 2) := by decide +kernel
theorem dX9_init_458 : decode cX9_init 458 = .ok (.newarray .int, 2) := by decide +kernel
theorem dX9_init_460 : decode cX9_init 460 = .ok (.putfield 78, 3) := by decide +kernel
theorem dX9_init_463 : decode cX9_init 463 = .ok (.aload_n 0, 1) := by decide +kernel
theorem dX9_init_464 : decode cX9_init 464 = .ok (.bipush 92, 2) := by decide +kernel
theorem dX9_init_466 : decode cX9_init 466 = .ok (.newarray .int, 2) := by decide +kernel
theorem dX9_init_468 : decode cX9_init 468 = .ok (.putfield 81, 3) := by decide +kernel
theorem dX9_init_471 : decode cX9_init 471 = .ok (.aload_n 0, 1) := by decide +kernel
theorem dX9_init_472 : decode cX9_init 472 = .ok (.sipush 23552, 3) := by decide +kernel
theorem dX9_init_475 : decode cX9_init 475 = .ok (.newarray .int, 2) := by decide +kernel
theorem dX9_init_477 : decode cX9_init 477 = .ok (.putfield 84, 3) := by decide +kernel
theorem dX9_init_480 : decode cX9_init 480 = .ok (.aload_n 0, 1) := by decide +kernel
theorem dX9_init_481 : decode cX9_init 481 = .ok (.sipush 9200, 3) := by decide +kernel
theorem dX9_init_484 : decode cX9_init 484 = .ok (.newarray .int, 2) := by decide +kernel
theorem dX9_init_486 : decode cX9_init 486 = .ok (.putfield 87, 3) := by decide +kernel
theorem dX9_init_489 : decode cX9_init 489 = .ok (.aload_n 0, 1) := by decide +kernel
theorem dX9_init_490 : decode cX9_init 490 = .ok (.bipush 92, 2) := by decide +kernel
theorem dX9_init_492 : decode cX9_init 492 = .ok (.newarray .int, 2) := by decide +kernel
theorem dX9_init_494 : decode cX9_init 494 = .ok (.putfield 90, 3) := by decide +kernel
theorem dX9_init_497 : decode cX9_init 497 = .ok (.aload_n 0, 1) := by decide +kernel
theorem dX9_init_498 : decode cX9_init 498 = .ok (.bipush 20, 2) := by decide +kernel
theorem dX9_init_500 : decode cX9_init 500 = .ok (.newarray .int, 2) := by decide +kernel
theorem dX9_init_502 : decode cX9_init 502 = .ok (.putfield 93, 3) := by decide +kernel
theorem dX9_init_505 : decode cX9_init 505 = .ok (.return_, 1) := by decide +kernel
theorem dX9_no_0 : decode cX9_no 0 = .ok (.aload_n 0, 1) := by decide +kernel
theorem dX9_no_1 : decode cX9_no 1 = .ok (.getfield 22, 3) := by decide +kernel
theorem dX9_no_4 : decode cX9_no 4 = .ok (.iload_n 1, 1) := by decide +kernel
theorem dX9_no_5 : decode cX9_no 5 = .ok (.ineg, 1) := by decide +kernel
theorem dX9_no_6 : decode cX9_no 6 = .ok (.dup2, 1) := by decide +kernel
theorem dX9_no_7 : decode cX9_no 7 = .ok (.iaload, 1) := by decide +kernel
theorem dX9_no_8 : decode cX9_no 8 = .ok (.iconst 1, 1) := by decide +kernel
theorem dX9_no_9 : decode cX9_no 9 = .ok (.iadd, 1) := by decide +kernel
theorem dX9_no_10 : decode cX9_no 10 = .ok (.iastore, 1) := by decide +kernel
theorem dX9_no_11 : decode cX9_no 11 = .ok (.iload_n 1, 1) := by decide +kernel
theorem dX9_no_12 : decode cX9_no 12 = .ok (.ireturn, 1) := by decide +kernel
theorem dX9_noTen_0 : decode cX9_noTen 0 = .ok (.aload_n 0, 1) := by decide +kernel
theorem dX9_noTen_1 : decode cX9_noTen 1 = .ok (.getfield 22, 3) := by decide +kernel
theorem dX9_noTen_4 : decode cX9_noTen 4 = .ok (.iload_n 1, 1) := by decide +kernel
theorem dX9_noTen_5 : decode cX9_noTen 5 = .ok (.ineg, 1) := by decide +kernel
theorem dX9_noTen_6 : decode cX9_noTen 6 = .ok (.dup2, 1) := by decide +kernel
theorem dX9_noTen_7 : decode cX9_noTen 7 = .ok (.iaload, 1) := by decide +kernel
theorem dX9_noTen_8 : decode cX9_noTen 8 = .ok (.iconst 1, 1) := by decide +kernel
theorem dX9_noTen_9 : decode cX9_noTen 9 = .ok (.iadd, 1) := by decide +kernel
theorem dX9_noTen_10 : decode cX9_noTen 10 = .ok (.iastore, 1) := by decide +kernel
theorem dX9_noTen_11 : decode cX9_noTen 11 = .ok (.iload_n 1, 1) := by decide +kernel
theorem dX9_noTen_12 : decode cX9_noTen 12 = .ok (.bipush 10, 2) := by decide +kernel
theorem dX9_noTen_14 : decode cX9_noTen 14 = .ok (.isub, 1) := by decide +kernel
theorem dX9_noTen_15 : decode cX9_noTen 15 = .ok (.ireturn, 1) := by decide +kernel
theorem dX9_isShelf_0 : decode cX9_isShelf 0 = .ok (.iload_n 1, 1) := by decide +kernel
theorem dX9_isShelf_1 : decode cX9_isShelf 1 = .ok (.ifCond .lt 13, 3) := by decide +kernel
theorem dX9_isShelf_4 : decode cX9_isShelf 4 = .ok (.iload_n 1, 1) := by decide +kernel
theorem dX9_isShelf_5 : decode cX9_isShelf 5 = .ok (.bipush 8, 2) := by decide +kernel
theorem dX9_isShelf_7 : decode cX9_isShelf 7 = .ok (.if_icmp .ge 7, 3) := by decide +kernel
theorem dX9_isShelf_10 : decode cX9_isShelf 10 = .ok (.iconst 1, 1) := by decide +kernel
theorem dX9_isShelf_11 : decode cX9_isShelf 11 = .ok (.goto 4, 3) := by decide +kernel
theorem dX9_isShelf_14 : decode cX9_isShelf 14 = .ok (.iconst 0, 1) := by decide +kernel
theorem dX9_isShelf_15 : decode cX9_isShelf 15 = .ok (.ireturn, 1) := by decide +kernel
theorem dX9_isSinger_0 : decode cX9_isSinger 0 = .ok (.iload_n 1, 1) := by decide +kernel
theorem dX9_isSinger_1 : decode cX9_isSinger 1 = .ok (.ifCond .lt 15, 3) := by decide +kernel
theorem dX9_isSinger_4 : decode cX9_isSinger 4 = .ok (.iload_n 1, 1) := by decide +kernel
theorem dX9_isSinger_5 : decode cX9_isSinger 5 = .ok (.aload_n 0, 1) := by decide +kernel
theorem dX9_isSinger_6 : decode cX9_isSinger 6 = .ok (.getfield 96, 3) := by decide +kernel
theorem dX9_isSinger_9 : decode cX9_isSinger 9 = .ok (.if_icmp .ge 7, 3) := by decide +kernel
theorem dX9_isSinger_12 : decode cX9_isSinger 12 = .ok (.iconst 1, 1) := by decide +kernel
theorem dX9_isSinger_13 : decode cX9_isSinger 13 = .ok (.goto 4, 3) := by decide +kernel
theorem dX9_isSinger_16 : decode cX9_isSinger 16 = .ok (.iconst 0, 1) := by decide +kernel
theorem dX9_isSinger_17 : decode cX9_isSinger 17 = .ok (.ireturn, 1) := by decide +kernel
theorem dX9_isIn_0 : decode cX9_isIn 0 = .ok (.iload_n 1, 1) := by decide +kernel
theorem dX9_isIn_1 : decode cX9_isIn 1 = .ok (.iload_n 2, 1) := by decide +kernel
theorem dX9_isIn_2 : decode cX9_isIn 2 = .ok (.ishr, 1) := by decide +kernel
theorem dX9_isIn_3 : decode cX9_isIn 3 = .ok (.iconst 1, 1) := by decide +kernel
theorem dX9_isIn_4 : decode cX9_isIn 4 = .ok (.iand, 1) := by decide +kernel
theorem dX9_isIn_5 : decode cX9_isIn 5 = .ok (.iconst 1, 1) := by decide +kernel
theorem dX9_isIn_6 : decode cX9_isIn 6 = .ok (.if_icmp .ne 7, 3) := by decide +kernel
theorem dX9_isIn_9 : decode cX9_isIn 9 = .ok (.iconst 1, 1) := by decide +kernel
theorem dX9_isIn_10 : decode cX9_isIn 10 = .ok (.goto 4, 3) := by decide +kernel
theorem dX9_isIn_13 : decode cX9_isIn 13 = .ok (.iconst 0, 1) := by decide +kernel
theorem dX9_isIn_14 : decode cX9_isIn 14 = .ok (.ireturn, 1) := by decide +kernel
theorem dX9_everybody_0 : decode cX9_everybody 0 = .ok (.iconst 1, 1) := by decide +kernel
theorem dX9_everybody_1 : decode cX9_everybody 1 = .ok (.aload_n 0, 1) := by decide +kernel
theorem dX9_everybody_2 : decode cX9_everybody 2 = .ok (.getfield 96, 3) := by decide +kernel
theorem dX9_everybody_5 : decode cX9_everybody 5 = .ok (.ishl, 1) := by decide +kernel
theorem dX9_everybody_6 : decode cX9_everybody 6 = .ok (.iconst 1, 1) := by decide +kernel
theorem dX9_everybody_7 : decode cX9_everybody 7 = .ok (.isub, 1) := by decide +kernel
theorem dX9_everybody_8 : decode cX9_everybody 8 = .ok (.ireturn, 1) := by decide +kernel
theorem dX9_isSet_0 : decode cX9_isSet 0 = .ok (.iload_n 1, 1) := by decide +kernel
theorem dX9_isSet_1 : decode cX9_isSet 1 = .ok (.ifCond .le 15, 3) := by decide +kernel
theorem dX9_isSet_4 : decode cX9_isSet 4 = .ok (.iload_n 1, 1) := by decide +kernel
theorem dX9_isSet_5 : decode cX9_isSet 5 = .ok (.aload_n 0, 1) := by decide +kernel
theorem dX9_isSet_6 : decode cX9_isSet 6 = .ok (.invokevirtual 99, 3) := by decide +kernel
theorem dX9_isSet_9 : decode cX9_isSet 9 = .ok (.if_icmp .gt 7, 3) := by decide +kernel
theorem dX9_isSet_12 : decode cX9_isSet 12 = .ok (.iconst 1, 1) := by decide +kernel
theorem dX9_isSet_13 : decode cX9_isSet 13 = .ok (.goto 4, 3) := by decide +kernel
theorem dX9_isSet_16 : decode cX9_isSet 16 = .ok (.iconst 0, 1) := by decide +kernel
theorem dX9_isSet_17 : decode cX9_isSet 17 = .ok (.ireturn, 1) := by decide +kernel
theorem dX9_count_0 : decode cX9_count 0 = .ok (.iconst 0, 1) := by decide +kernel
theorem dX9_count_1 : decode cX9_count 1 = .ok (.istore_n 2, 1) := by decide +kernel
theorem dX9_count_2 : decode cX9_count 2 = .ok (.iconst 0, 1) := by decide +kernel
theorem dX9_count_3 : decode cX9_count 3 = .ok (.istore_n 3, 1) := by decide +kernel
theorem dX9_count_4 : decode cX9_count 4 = .ok (.iload_n 3, 1) := by decide +kernel
theorem dX9_count_5 : decode cX9_count 5 = .ok (.bipush 8, 2) := by decide +kernel
theorem dX9_count_7 : decode cX9_count 7 = .ok (.if_icmp .ge 17, 3) := by decide +kernel
theorem dX9_count_10 : decode cX9_count 10 = .ok (.iload_n 2, 1) := by decide +kernel
theorem dX9_count_11 : decode cX9_count 11 = .ok (.iload_n 1, 1) := by decide +kernel
theorem dX9_count_12 : decode cX9_count 12 = .ok (.iload_n 3, 1) := by decide +kernel
theorem dX9_count_13 : decode cX9_count 13 = .ok (.ishr, 1) := by decide +kernel
theorem dX9_count_14 : decode cX9_count 14 = .ok (.iconst 1, 1) := by decide +kernel
theorem dX9_count_15 : decode cX9_count 15 = .ok (.iand, 1) := by decide +kernel
theorem dX9_count_16 : decode cX9_count 16 = .ok (.iadd, 1) := by decide +kernel
theorem dX9_count_17 : decode cX9_count 17 = .ok (.istore_n 2, 1) := by decide +kernel
theorem dX9_count_18 : decode cX9_count 18 = .ok (.iinc 3 1, 3) := by decide +kernel
theorem dX9_count_21 : decode cX9_count 21 = .ok (.goto (-17), 3) := by decide +kernel
theorem dX9_count_24 : decode cX9_count 24 = .ok (.iload_n 2, 1) := by decide +kernel
theorem dX9_count_25 : decode cX9_count 25 = .ok (.ireturn, 1) := by decide +kernel
theorem dX9_isOne_0 : decode cX9_isOne 0 = .ok (.iload_n 1, 1) := by decide +kernel
theorem dX9_isOne_1 : decode cX9_isOne 1 = .ok (.ifCond .eq 8, 3) := by decide +kernel
theorem dX9_isOne_4 : decode cX9_isOne 4 = .ok (.iload_n 1, 1) := by decide +kernel
theorem dX9_isOne_5 : decode cX9_isOne 5 = .ok (.iconst 1, 1) := by decide +kernel
theorem dX9_isOne_6 : decode cX9_isOne 6 = .ok (.if_icmp .ne 7, 3) := by decide +kernel
theorem dX9_isOne_9 : decode cX9_isOne 9 = .ok (.iconst 1, 1) := by decide +kernel
theorem dX9_isOne_10 : decode cX9_isOne 10 = .ok (.goto 4, 3) := by decide +kernel
theorem dX9_isOne_13 : decode cX9_isOne 13 = .ok (.iconst 0, 1) := by decide +kernel
theorem dX9_isOne_14 : decode cX9_isOne 14 = .ok (.ireturn, 1) := by decide +kernel
theorem dX9_row_0 : decode cX9_row 0 = .ok (.aload_n 0, 1) := by decide +kernel
theorem dX9_row_1 : decode cX9_row 1 = .ok (.iload_n 1, 1) := by decide +kernel
theorem dX9_row_2 : decode cX9_row 2 = .ok (.invokevirtual 103, 3) := by decide +kernel
theorem dX9_row_5 : decode cX9_row 5 = .ok (.ifCond .ne 9, 3) := by decide +kernel
theorem dX9_row_8 : decode cX9_row 8 = .ok (.aload_n 0, 1) := by decide +kernel
theorem dX9_row_9 : decode cX9_row 9 = .ok (.iconst (-1), 1) := by decide +kernel
theorem dX9_row_10 : decode cX9_row 10 = .ok (.invokevirtual 107, 3) := by decide +kernel
theorem dX9_row_13 : decode cX9_row 13 = .ok (.ireturn, 1) := by decide +kernel
theorem dX9_row_14 : decode cX9_row 14 = .ok (.iload_n 3, 1) := by decide +kernel
theorem dX9_row_15 : decode cX9_row 15 = .ok (.ifCond .ge 10, 3) := by decide +kernel
theorem dX9_row_18 : decode cX9_row 18 = .ok (.aload_n 0, 1) := by decide +kernel
theorem dX9_row_19 : decode cX9_row 19 = .ok (.bipush (-4), 2) := by decide +kernel
theorem dX9_row_21 : decode cX9_row 21 = .ok (.invokevirtual 107, 3) := by decide +kernel
theorem dX9_row_24 : decode cX9_row 24 = .ok (.ireturn, 1) := by decide +kernel
theorem dX9_row_25 : decode cX9_row 25 = .ok (.iload_n 2, 1) := by decide +kernel
theorem dX9_row_26 : decode cX9_row 26 = .ok (.ifCond .lt 8, 3) := by decide +kernel
theorem dX9_row_29 : decode cX9_row 29 = .ok (.iload_n 2, 1) := by decide +kernel
theorem dX9_row_30 : decode cX9_row 30 = .ok (.iconst 3, 1) := by decide +kernel
theorem dX9_row_31 : decode cX9_row 31 = .ok (.if_icmp .le 10, 3) := by decide +kernel
theorem dX9_row_34 : decode cX9_row 34 = .ok (.aload_n 0, 1) := by decide +kernel
theorem dX9_row_35 : decode cX9_row 35 = .ok (.bipush (-6), 2) := by decide +kernel
theorem dX9_row_37 : decode cX9_row 37 = .ok (.invokevirtual 107, 3) := by decide +kernel
theorem dX9_row_40 : decode cX9_row 40 = .ok (.ireturn, 1) := by decide +kernel
theorem dX9_row_41 : decode cX9_row 41 = .ok (.iload_n 3, 1) := by decide +kernel
theorem dX9_row_42 : decode cX9_row 42 = .ok (.sipush 160, 3) := by decide +kernel
theorem dX9_row_45 : decode cX9_row 45 = .ok (.if_icmp .le 10, 3) := by decide +kernel
theorem dX9_row_48 : decode cX9_row 48 = .ok (.aload_n 0, 1) := by decide +kernel
theorem dX9_row_49 : decode cX9_row 49 = .ok (.bipush (-7), 2) := by decide +kernel
theorem dX9_row_51 : decode cX9_row 51 = .ok (.invokevirtual 107, 3) := by decide +kernel
theorem dX9_row_54 : decode cX9_row 54 = .ok (.ireturn, 1) := by decide +kernel
theorem dX9_row_55 : decode cX9_row 55 = .ok (.aload_n 0, 1) := by decide +kernel
theorem dX9_row_56 : decode cX9_row 56 = .ok (.getfield 44, 3) := by decide +kernel
theorem dX9_row_59 : decode cX9_row 59 = .ok (.iload_n 1, 1) := by decide +kernel
theorem dX9_row_60 : decode cX9_row 60 = .ok (.iconst 1, 1) := by decide +kernel
theorem dX9_row_61 : decode cX9_row 61 = .ok (.iastore, 1) := by decide +kernel
theorem dX9_row_62 : decode cX9_row 62 = .ok (.aload_n 0, 1) := by decide +kernel
theorem dX9_row_63 : decode cX9_row 63 = .ok (.getfield 47, 3) := by decide +kernel
theorem dX9_row_66 : decode cX9_row 66 = .ok (.iload_n 1, 1) := by decide +kernel
theorem dX9_row_67 : decode cX9_row 67 = .ok (.iload_n 2, 1) := by decide +kernel
theorem dX9_row_68 : decode cX9_row 68 = .ok (.iastore, 1) := by decide +kernel
theorem dX9_row_69 : decode cX9_row 69 = .ok (.aload_n 0, 1) := by decide +kernel
theorem dX9_row_70 : decode cX9_row 70 = .ok (.getfield 50, 3) := by decide +kernel
theorem dX9_row_73 : decode cX9_row 73 = .ok (.iload_n 1, 1) := by decide +kernel
theorem dX9_row_74 : decode cX9_row 74 = .ok (.iload_n 3, 1) := by decide +kernel
theorem dX9_row_75 : decode cX9_row 75 = .ok (.iastore, 1) := by decide +kernel
theorem dX9_row_76 : decode cX9_row 76 = .ok (.iconst 0, 1) := by decide +kernel
theorem dX9_row_77 : decode cX9_row 77 = .ok (.istore 4, 2) := by decide +kernel
theorem dX9_row_79 : decode cX9_row 79 = .ok (.iload 4, 2) := by decide +kernel
theorem dX9_row_81 : decode cX9_row 81 = .ok (.sipush 160, 3) := by decide +kernel
theorem dX9_row_84 : decode cX9_row 84 = .ok (.if_icmp .ge 23, 3) := by decide +kernel
theorem dX9_row_87 : decode cX9_row 87 = .ok (.aload_n 0, 1) := by decide +kernel
theorem dX9_row_88 : decode cX9_row 88 = .ok (.getfield 56, 3) := by decide +kernel
theorem dX9_row_91 : decode cX9_row 91 = .ok (.sipush 160, 3) := by decide +kernel
theorem dX9_row_94 : decode cX9_row 94 = .ok (.iload_n 1, 1) := by decide +kernel
theorem dX9_row_95 : decode cX9_row 95 = .ok (.imul, 1) := by decide +kernel
theorem dX9_row_96 : decode cX9_row 96 = .ok (.iload 4, 2) := by decide +kernel
theorem dX9_row_98 : decode cX9_row 98 = .ok (.iadd, 1) := by decide +kernel
theorem dX9_row_99 : decode cX9_row 99 = .ok (.lconst 0, 1) := by decide +kernel
theorem dX9_row_100 : decode cX9_row 100 = .ok (.lastore, 1) := by decide +kernel
theorem dX9_row_101 : decode cX9_row 101 = .ok (.iinc 4 1, 3) := by decide +kernel
theorem dX9_row_104 : decode cX9_row 104 = .ok (.goto (-25), 3) := by decide +kernel
theorem dX9_row_107 : decode cX9_row 107 = .ok (.iconst 1, 1) := by decide +kernel
theorem dX9_row_108 : decode cX9_row 108 = .ok (.ireturn, 1) := by decide +kernel
theorem dX9_set_0 : decode cX9_set 0 = .ok (.aload_n 0, 1) := by decide +kernel
theorem dX9_set_1 : decode cX9_set 1 = .ok (.iload_n 1, 1) := by decide +kernel
theorem dX9_set_2 : decode cX9_set 2 = .ok (.invokevirtual 103, 3) := by decide +kernel
theorem dX9_set_5 : decode cX9_set 5 = .ok (.ifCond .ne 9, 3) := by decide +kernel
theorem dX9_set_8 : decode cX9_set 8 = .ok (.aload_n 0, 1) := by decide +kernel
theorem dX9_set_9 : decode cX9_set 9 = .ok (.iconst (-1), 1) := by decide +kernel
theorem dX9_set_10 : decode cX9_set 10 = .ok (.invokevirtual 107, 3) := by decide +kernel
theorem dX9_set_13 : decode cX9_set 13 = .ok (.ireturn, 1) := by decide +kernel
theorem dX9_set_14 : decode cX9_set 14 = .ok (.aload_n 0, 1) := by decide +kernel
theorem dX9_set_15 : decode cX9_set 15 = .ok (.getfield 44, 3) := by decide +kernel
theorem dX9_set_18 : decode cX9_set 18 = .ok (.iload_n 1, 1) := by decide +kernel
theorem dX9_set_19 : decode cX9_set 19 = .ok (.iaload, 1) := by decide +kernel
theorem dX9_set_20 : decode cX9_set 20 = .ok (.iconst 2, 1) := by decide +kernel
theorem dX9_set_21 : decode cX9_set 21 = .ok (.if_icmp .ne 10, 3) := by decide +kernel
theorem dX9_set_24 : decode cX9_set 24 = .ok (.aload_n 0, 1) := by decide +kernel
theorem dX9_set_25 : decode cX9_set 25 = .ok (.bipush (-2), 2) := by decide +kernel
theorem dX9_set_27 : decode cX9_set 27 = .ok (.invokevirtual 107, 3) := by decide +kernel
theorem dX9_set_30 : decode cX9_set 30 = .ok (.ireturn, 1) := by decide +kernel
theorem dX9_set_31 : decode cX9_set 31 = .ok (.aload_n 0, 1) := by decide +kernel
theorem dX9_set_32 : decode cX9_set 32 = .ok (.getfield 44, 3) := by decide +kernel
theorem dX9_set_35 : decode cX9_set 35 = .ok (.iload_n 1, 1) := by decide +kernel
theorem dX9_set_36 : decode cX9_set 36 = .ok (.iaload, 1) := by decide +kernel
theorem dX9_set_37 : decode cX9_set 37 = .ok (.ifCond .ne 10, 3) := by decide +kernel
theorem dX9_set_40 : decode cX9_set 40 = .ok (.aload_n 0, 1) := by decide +kernel
theorem dX9_set_41 : decode cX9_set 41 = .ok (.bipush (-3), 2) := by decide +kernel
theorem dX9_set_43 : decode cX9_set 43 = .ok (.invokevirtual 107, 3) := by decide +kernel
theorem dX9_set_46 : decode cX9_set 46 = .ok (.ireturn, 1) := by decide +kernel
theorem dX9_set_47 : decode cX9_set 47 = .ok (.iload_n 2, 1) := by decide +kernel
theorem dX9_set_48 : decode cX9_set 48 = .ok (.ifCond .lt 13, 3) := by decide +kernel
theorem dX9_set_51 : decode cX9_set 51 = .ok (.iload_n 2, 1) := by decide +kernel
theorem dX9_set_52 : decode cX9_set 52 = .ok (.aload_n 0, 1) := by decide +kernel
theorem dX9_set_53 : decode cX9_set 53 = .ok (.getfield 50, 3) := by decide +kernel
theorem dX9_set_56 : decode cX9_set 56 = .ok (.iload_n 1, 1) := by decide +kernel
theorem dX9_set_57 : decode cX9_set 57 = .ok (.iaload, 1) := by decide +kernel
theorem dX9_set_58 : decode cX9_set 58 = .ok (.if_icmp .lt 10, 3) := by decide +kernel
theorem dX9_set_61 : decode cX9_set 61 = .ok (.aload_n 0, 1) := by decide +kernel
theorem dX9_set_62 : decode cX9_set 62 = .ok (.bipush (-5), 2) := by decide +kernel
theorem dX9_set_64 : decode cX9_set 64 = .ok (.invokevirtual 107, 3) := by decide +kernel
theorem dX9_set_67 : decode cX9_set 67 = .ok (.ireturn, 1) := by decide +kernel
theorem dX9_set_68 : decode cX9_set 68 = .ok (.aload_n 0, 1) := by decide +kernel
theorem dX9_set_69 : decode cX9_set 69 = .ok (.getfield 56, 3) := by decide +kernel
theorem dX9_set_72 : decode cX9_set 72 = .ok (.sipush 160, 3) := by decide +kernel
theorem dX9_set_75 : decode cX9_set 75 = .ok (.iload_n 1, 1) := by decide +kernel
theorem dX9_set_76 : decode cX9_set 76 = .ok (.imul, 1) := by decide +kernel
theorem dX9_set_77 : decode cX9_set 77 = .ok (.iload_n 2, 1) := by decide +kernel
theorem dX9_set_78 : decode cX9_set 78 = .ok (.iadd, 1) := by decide +kernel
theorem dX9_set_79 : decode cX9_set 79 = .ok (.aload_n 0, 1) := by decide +kernel
theorem dX9_set_80 : decode cX9_set 80 = .ok (.getfield 47, 3) := by decide +kernel
theorem dX9_set_83 : decode cX9_set 83 = .ok (.iload_n 1, 1) := by decide +kernel
theorem dX9_set_84 : decode cX9_set 84 = .ok (.iaload, 1) := by decide +kernel
theorem dX9_set_85 : decode cX9_set 85 = .ok (.ifCond .ne 10, 3) := by decide +kernel
theorem dX9_set_88 : decode cX9_set 88 = .ok (.lload_n 3, 1) := by decide +kernel
theorem dX9_set_89 : decode cX9_set 89 = .ok (.l2i, 1) := by decide +kernel
theorem dX9_set_90 : decode cX9_set 90 = .ok (.i2b, 1) := by decide +kernel
theorem dX9_set_91 : decode cX9_set 91 = .ok (.i2l, 1) := by decide +kernel
theorem dX9_set_92 : decode cX9_set 92 = .ok (.goto 37, 3) := by decide +kernel
theorem dX9_set_95 : decode cX9_set 95 = .ok (.aload_n 0, 1) := by decide +kernel
theorem dX9_set_96 : decode cX9_set 96 = .ok (.getfield 47, 3) := by decide +kernel
theorem dX9_set_99 : decode cX9_set 99 = .ok (.iload_n 1, 1) := by decide +kernel
theorem dX9_set_100 : decode cX9_set 100 = .ok (.iaload, 1) := by decide +kernel
theorem dX9_set_101 : decode cX9_set 101 = .ok (.iconst 1, 1) := by decide +kernel
theorem dX9_set_102 : decode cX9_set 102 = .ok (.if_icmp .ne 10, 3) := by decide +kernel
theorem dX9_set_105 : decode cX9_set 105 = .ok (.lload_n 3, 1) := by decide +kernel
theorem dX9_set_106 : decode cX9_set 106 = .ok (.l2i, 1) := by decide +kernel
theorem dX9_set_107 : decode cX9_set 107 = .ok (.i2s, 1) := by decide +kernel
theorem dX9_set_108 : decode cX9_set 108 = .ok (.i2l, 1) := by decide +kernel
theorem dX9_set_109 : decode cX9_set 109 = .ok (.goto 20, 3) := by decide +kernel
theorem dX9_set_112 : decode cX9_set 112 = .ok (.aload_n 0, 1) := by decide +kernel
theorem dX9_set_113 : decode cX9_set 113 = .ok (.getfield 47, 3) := by decide +kernel
theorem dX9_set_116 : decode cX9_set 116 = .ok (.iload_n 1, 1) := by decide +kernel
theorem dX9_set_117 : decode cX9_set 117 = .ok (.iaload, 1) := by decide +kernel
theorem dX9_set_118 : decode cX9_set 118 = .ok (.iconst 2, 1) := by decide +kernel
theorem dX9_set_119 : decode cX9_set 119 = .ok (.if_icmp .ne 9, 3) := by decide +kernel
theorem dX9_set_122 : decode cX9_set 122 = .ok (.lload_n 3, 1) := by decide +kernel
theorem dX9_set_123 : decode cX9_set 123 = .ok (.l2i, 1) := by decide +kernel
theorem dX9_set_124 : decode cX9_set 124 = .ok (.i2l, 1) := by decide +kernel
theorem dX9_set_125 : decode cX9_set 125 = .ok (.goto 4, 3) := by decide +kernel
theorem dX9_set_128 : decode cX9_set 128 = .ok (.lload_n 3, 1) := by decide +kernel
theorem dX9_set_129 : decode cX9_set 129 = .ok (.lastore, 1) := by decide +kernel
theorem dX9_set_130 : decode cX9_set 130 = .ok (.iconst 1, 1) := by decide +kernel
theorem dX9_set_131 : decode cX9_set 131 = .ok (.ireturn, 1) := by decide +kernel
theorem dX9_copy_0 : decode cX9_copy 0 = .ok (.aload_n 0, 1) := by decide +kernel
theorem dX9_copy_1 : decode cX9_copy 1 = .ok (.iload_n 1, 1) := by decide +kernel
theorem dX9_copy_2 : decode cX9_copy 2 = .ok (.invokevirtual 103, 3) := by decide +kernel
theorem dX9_copy_5 : decode cX9_copy 5 = .ok (.ifCond .eq 11, 3) := by decide +kernel
theorem dX9_copy_8 : decode cX9_copy 8 = .ok (.aload_n 0, 1) := by decide +kernel
theorem dX9_copy_9 : decode cX9_copy 9 = .ok (.iload_n 2, 1) := by decide +kernel
theorem dX9_copy_10 : decode cX9_copy 10 = .ok (.invokevirtual 103, 3) := by decide +kernel
theorem dX9_copy_13 : decode cX9_copy 13 = .ok (.ifCond .ne 9, 3) := by decide +kernel
theorem dX9_copy_16 : decode cX9_copy 16 = .ok (.aload_n 0, 1) := by decide +kernel
theorem dX9_copy_17 : decode cX9_copy 17 = .ok (.iconst (-1), 1) := by decide +kernel
theorem dX9_copy_18 : decode cX9_copy 18 = .ok (.invokevirtual 107, 3) := by decide +kernel
theorem dX9_copy_21 : decode cX9_copy 21 = .ok (.ireturn, 1) := by decide +kernel
theorem dX9_copy_22 : decode cX9_copy 22 = .ok (.aload_n 0, 1) := by decide +kernel
theorem dX9_copy_23 : decode cX9_copy 23 = .ok (.getfield 44, 3) := by decide +kernel
theorem dX9_copy_26 : decode cX9_copy 26 = .ok (.iload_n 1, 1) := by decide +kernel
theorem dX9_copy_27 : decode cX9_copy 27 = .ok (.iaload, 1) := by decide +kernel
theorem dX9_copy_28 : decode cX9_copy 28 = .ok (.iconst 2, 1) := by decide +kernel
theorem dX9_copy_29 : decode cX9_copy 29 = .ok (.if_icmp .eq 48, 3) := by decide +kernel
theorem dX9_copy_32 : decode cX9_copy 32 = .ok (.aload_n 0, 1) := by decide +kernel
theorem dX9_copy_33 : decode cX9_copy 33 = .ok (.getfield 44, 3) := by decide +kernel
theorem dX9_copy_36 : decode cX9_copy 36 = .ok (.iload_n 2, 1) := by decide +kernel
theorem dX9_copy_37 : decode cX9_copy 37 = .ok (.iaload, 1) := by decide +kernel
theorem dX9_copy_38 : decode cX9_copy 38 = .ok (.iconst 2, 1) := by decide +kernel
theorem dX9_copy_39 : decode cX9_copy 39 = .ok (.if_icmp .eq 38, 3) := by decide +kernel
theorem dX9_copy_42 : decode cX9_copy 42 = .ok (.aload_n 0, 1) := by decide +kernel
theorem dX9_copy_43 : decode cX9_copy 43 = .ok (.getfield 44, 3) := by decide +kernel
theorem dX9_copy_46 : decode cX9_copy 46 = .ok (.iload_n 1, 1) := by decide +kernel
theorem dX9_copy_47 : decode cX9_copy 47 = .ok (.iaload, 1) := by decide +kernel
theorem dX9_copy_48 : decode cX9_copy 48 = .ok (.iconst 1, 1) := by decide +kernel
theorem dX9_copy_49 : decode cX9_copy 49 = .ok (.if_icmp .ne 35, 3) := by decide +kernel
theorem dX9_copy_52 : decode cX9_copy 52 = .ok (.aload_n 0, 1) := by decide +kernel
theorem dX9_copy_53 : decode cX9_copy 53 = .ok (.getfield 44, 3) := by decide +kernel
theorem dX9_copy_56 : decode cX9_copy 56 = .ok (.iload_n 2, 1) := by decide +kernel
theorem dX9_copy_57 : decode cX9_copy 57 = .ok (.iaload, 1) := by decide +kernel
theorem dX9_copy_58 : decode cX9_copy 58 = .ok (.iconst 1, 1) := by decide +kernel
theorem dX9_copy_59 : decode cX9_copy 59 = .ok (.if_icmp .ne 25, 3) := by decide +kernel
theorem dX9_copy_62 : decode cX9_copy 62 = .ok (.aload_n 0, 1) := by decide +kernel
theorem dX9_copy_63 : decode cX9_copy 63 = .ok (.getfield 47, 3) := by decide +kernel
theorem dX9_copy_66 : decode cX9_copy 66 = .ok (.iload_n 1, 1) := by decide +kernel
theorem dX9_copy_67 : decode cX9_copy 67 = .ok (.iaload, 1) := by decide +kernel
theorem dX9_copy_68 : decode cX9_copy 68 = .ok (.aload_n 0, 1) := by decide +kernel
theorem dX9_copy_69 : decode cX9_copy 69 = .ok (.getfield 47, 3) := by decide +kernel
theorem dX9_copy_72 : decode cX9_copy 72 = .ok (.iload_n 2, 1) := by decide +kernel
theorem dX9_copy_73 : decode cX9_copy 73 = .ok (.iaload, 1) := by decide +kernel
theorem dX9_copy_74 : decode cX9_copy 74 = .ok (.if_icmp .eq 10, 3) := by decide +kernel
theorem dX9_copy_77 : decode cX9_copy 77 = .ok (.aload_n 0, 1) := by decide +kernel
theorem dX9_copy_78 : decode cX9_copy 78 = .ok (.bipush (-2), 2) := by decide +kernel
theorem dX9_copy_80 : decode cX9_copy 80 = .ok (.invokevirtual 107, 3) := by decide +kernel
theorem dX9_copy_83 : decode cX9_copy 83 = .ok (.ireturn, 1) := by decide +kernel
theorem dX9_copy_84 : decode cX9_copy 84 = .ok (.aload_n 0, 1) := by decide +kernel
theorem dX9_copy_85 : decode cX9_copy 85 = .ok (.getfield 44, 3) := by decide +kernel
theorem dX9_copy_88 : decode cX9_copy 88 = .ok (.iload_n 1, 1) := by decide +kernel
theorem dX9_copy_89 : decode cX9_copy 89 = .ok (.iaload, 1) := by decide +kernel
theorem dX9_copy_90 : decode cX9_copy 90 = .ok (.ifCond .eq 12, 3) := by decide +kernel
theorem dX9_copy_93 : decode cX9_copy 93 = .ok (.aload_n 0, 1) := by decide +kernel
theorem dX9_copy_94 : decode cX9_copy 94 = .ok (.getfield 44, 3) := by decide +kernel
theorem dX9_copy_97 : decode cX9_copy 97 = .ok (.iload_n 2, 1) := by decide +kernel
theorem dX9_copy_98 : decode cX9_copy 98 = .ok (.iaload, 1) := by decide +kernel
theorem dX9_copy_99 : decode cX9_copy 99 = .ok (.ifCond .ne 10, 3) := by decide +kernel
theorem dX9_copy_102 : decode cX9_copy 102 = .ok (.aload_n 0, 1) := by decide +kernel
theorem dX9_copy_103 : decode cX9_copy 103 = .ok (.bipush (-3), 2) := by decide +kernel
theorem dX9_copy_105 : decode cX9_copy 105 = .ok (.invokevirtual 107, 3) := by decide +kernel
theorem dX9_copy_108 : decode cX9_copy 108 = .ok (.ireturn, 1) := by decide +kernel
theorem dX9_copy_109 : decode cX9_copy 109 = .ok (.iload 5, 2) := by decide +kernel
theorem dX9_copy_111 : decode cX9_copy 111 = .ok (.ifCond .ge 10, 3) := by decide +kernel
theorem dX9_copy_114 : decode cX9_copy 114 = .ok (.aload_n 0, 1) := by decide +kernel
theorem dX9_copy_115 : decode cX9_copy 115 = .ok (.bipush (-4), 2) := by decide +kernel
theorem dX9_copy_117 : decode cX9_copy 117 = .ok (.invokevirtual 107, 3) := by decide +kernel
theorem dX9_copy_120 : decode cX9_copy 120 = .ok (.ireturn, 1) := by decide +kernel
theorem dX9_copy_121 : decode cX9_copy 121 = .ok (.iload_n 3, 1) := by decide +kernel
theorem dX9_copy_122 : decode cX9_copy 122 = .ok (.ifCond .lt 35, 3) := by decide +kernel
theorem dX9_copy_125 : decode cX9_copy 125 = .ok (.iload 4, 2) := by decide +kernel
theorem dX9_copy_127 : decode cX9_copy 127 = .ok (.ifCond .lt 30, 3) := by decide +kernel
theorem dX9_copy_130 : decode cX9_copy 130 = .ok (.iload_n 3, 1) := by decide +kernel
theorem dX9_copy_131 : decode cX9_copy 131 = .ok (.aload_n 0, 1) := by decide +kernel
theorem dX9_copy_132 : decode cX9_copy 132 = .ok (.getfield 50, 3) := by decide +kernel
theorem dX9_copy_135 : decode cX9_copy 135 = .ok (.iload_n 1, 1) := by decide +kernel
theorem dX9_copy_136 : decode cX9_copy 136 = .ok (.iaload, 1) := by decide +kernel
theorem dX9_copy_137 : decode cX9_copy 137 = .ok (.iload 5, 2) := by decide +kernel
theorem dX9_copy_139 : decode cX9_copy 139 = .ok (.isub, 1) := by decide +kernel
theorem dX9_copy_140 : decode cX9_copy 140 = .ok (.if_icmp .gt 17, 3) := by decide +kernel
theorem dX9_copy_143 : decode cX9_copy 143 = .ok (.iload 4, 2) := by decide +kernel
theorem dX9_copy_145 : decode cX9_copy 145 = .ok (.aload_n 0, 1) := by decide +kernel
theorem dX9_copy_146 : decode cX9_copy 146 = .ok (.getfield 50, 3) := by decide +kernel
theorem dX9_copy_149 : decode cX9_copy 149 = .ok (.iload_n 2, 1) := by decide +kernel
theorem dX9_copy_150 : decode cX9_copy 150 = .ok (.iaload, 1) := by decide +kernel
theorem dX9_copy_151 : decode cX9_copy 151 = .ok (.iload 5, 2) := by decide +kernel
theorem dX9_copy_153 : decode cX9_copy 153 = .ok (.isub, 1) := by decide +kernel
theorem dX9_copy_154 : decode cX9_copy 154 = .ok (.if_icmp .le 10, 3) := by decide +kernel
theorem dX9_copy_157 : decode cX9_copy 157 = .ok (.aload_n 0, 1) := by decide +kernel
theorem dX9_copy_158 : decode cX9_copy 158 = .ok (.bipush (-5), 2) := by decide +kernel
theorem dX9_copy_160 : decode cX9_copy 160 = .ok (.invokevirtual 107, 3) := by decide +kernel
theorem dX9_copy_163 : decode cX9_copy 163 = .ok (.ireturn, 1) := by decide +kernel
theorem dX9_copy_164 : decode cX9_copy 164 = .ok (.iconst 0, 1) := by decide +kernel
theorem dX9_copy_165 : decode cX9_copy 165 = .ok (.istore 6, 2) := by decide +kernel
theorem dX9_copy_167 : decode cX9_copy 167 = .ok (.iload 6, 2) := by decide +kernel
theorem dX9_copy_169 : decode cX9_copy 169 = .ok (.iload 5, 2) := by decide +kernel
theorem dX9_copy_171 : decode cX9_copy 171 = .ok (.if_icmp .ge 31, 3) := by decide +kernel
theorem dX9_copy_174 : decode cX9_copy 174 = .ok (.aload_n 0, 1) := by decide +kernel
theorem dX9_copy_175 : decode cX9_copy 175 = .ok (.getfield 60, 3) := by decide +kernel
theorem dX9_copy_178 : decode cX9_copy 178 = .ok (.iload 6, 2) := by decide +kernel
theorem dX9_copy_180 : decode cX9_copy 180 = .ok (.aload_n 0, 1) := by decide +kernel
theorem dX9_copy_181 : decode cX9_copy 181 = .ok (.getfield 56, 3) := by decide +kernel
theorem dX9_copy_184 : decode cX9_copy 184 = .ok (.sipush 160, 3) := by decide +kernel
theorem dX9_copy_187 : decode cX9_copy 187 = .ok (.iload_n 1, 1) := by decide +kernel
theorem dX9_copy_188 : decode cX9_copy 188 = .ok (.imul, 1) := by decide +kernel
theorem dX9_copy_189 : decode cX9_copy 189 = .ok (.iload_n 3, 1) := by decide +kernel
theorem dX9_copy_190 : decode cX9_copy 190 = .ok (.iadd, 1) := by decide +kernel
theorem dX9_copy_191 : decode cX9_copy 191 = .ok (.iload 6, 2) := by decide +kernel
theorem dX9_copy_193 : decode cX9_copy 193 = .ok (.iadd, 1) := by decide +kernel
theorem dX9_copy_194 : decode cX9_copy 194 = .ok (.laload, 1) := by decide +kernel
theorem dX9_copy_195 : decode cX9_copy 195 = .ok (.lastore, 1) := by decide +kernel
theorem dX9_copy_196 : decode cX9_copy 196 = .ok (.iinc 6 1, 3) := by decide +kernel
theorem dX9_copy_199 : decode cX9_copy 199 = .ok (.goto (-32), 3) := by decide +kernel
theorem dX9_copy_202 : decode cX9_copy 202 = .ok (.iconst 0, 1) := by decide +kernel
theorem dX9_copy_203 : decode cX9_copy 203 = .ok (.istore 6, 2) := by decide +kernel
theorem dX9_copy_205 : decode cX9_copy 205 = .ok (.iload 6, 2) := by decide +kernel
theorem dX9_copy_207 : decode cX9_copy 207 = .ok (.iload 5, 2) := by decide +kernel
theorem dX9_copy_209 : decode cX9_copy 209 = .ok (.if_icmp .ge 32, 3) := by decide +kernel
theorem dX9_copy_212 : decode cX9_copy 212 = .ok (.aload_n 0, 1) := by decide +kernel
theorem dX9_copy_213 : decode cX9_copy 213 = .ok (.getfield 56, 3) := by decide +kernel
theorem dX9_copy_216 : decode cX9_copy 216 = .ok (.sipush 160, 3) := by decide +kernel
theorem dX9_copy_219 : decode cX9_copy 219 = .ok (.iload_n 2, 1) := by decide +kernel
theorem dX9_copy_220 : decode cX9_copy 220 = .ok (.imul, 1) := by decide +kernel
theorem dX9_copy_221 : decode cX9_copy 221 = .ok (.iload 4, 2) := by decide +kernel
theorem dX9_copy_223 : decode cX9_copy 223 = .ok (.iadd, 1) := by decide +kernel
theorem dX9_copy_224 : decode cX9_copy 224 = .ok (.iload 6, 2) := by decide +kernel
theorem dX9_copy_226 : decode cX9_copy 226 = .ok (.iadd, 1) := by decide +kernel
theorem dX9_copy_227 : decode cX9_copy 227 = .ok (.aload_n 0, 1) := by decide +kernel
theorem dX9_copy_228 : decode cX9_copy 228 = .ok (.getfield 60, 3) := by decide +kernel
theorem dX9_copy_231 : decode cX9_copy 231 = .ok (.iload 6, 2) := by decide +kernel
theorem dX9_copy_233 : decode cX9_copy 233 = .ok (.laload, 1) := by decide +kernel
theorem dX9_copy_234 : decode cX9_copy 234 = .ok (.lastore, 1) := by decide +kernel
theorem dX9_copy_235 : decode cX9_copy 235 = .ok (.iinc 6 1, 3) := by decide +kernel
theorem dX9_copy_238 : decode cX9_copy 238 = .ok (.goto (-33), 3) := by decide +kernel
theorem dX9_copy_241 : decode cX9_copy 241 = .ok (.iconst 1, 1) := by decide +kernel
theorem dX9_copy_242 : decode cX9_copy 242 = .ok (.ireturn, 1) := by decide +kernel
theorem dX9_element_0 : decode cX9_element 0 = .ok (.aload_n 0, 1) := by decide +kernel
theorem dX9_element_1 : decode cX9_element 1 = .ok (.iload_n 1, 1) := by decide +kernel
theorem dX9_element_2 : decode cX9_element 2 = .ok (.invokevirtual 103, 3) := by decide +kernel
theorem dX9_element_5 : decode cX9_element 5 = .ok (.ifCond .eq 42, 3) := by decide +kernel
theorem dX9_element_8 : decode cX9_element 8 = .ok (.aload_n 0, 1) := by decide +kernel
theorem dX9_element_9 : decode cX9_element 9 = .ok (.getfield 44, 3) := by decide +kernel
theorem dX9_element_12 : decode cX9_element 12 = .ok (.iload_n 1, 1) := by decide +kernel
theorem dX9_element_13 : decode cX9_element 13 = .ok (.iaload, 1) := by decide +kernel
theorem dX9_element_14 : decode cX9_element 14 = .ok (.iconst 1, 1) := by decide +kernel
theorem dX9_element_15 : decode cX9_element 15 = .ok (.if_icmp .ne 32, 3) := by decide +kernel
theorem dX9_element_18 : decode cX9_element 18 = .ok (.iload_n 2, 1) := by decide +kernel
theorem dX9_element_19 : decode cX9_element 19 = .ok (.ifCond .lt 28, 3) := by decide +kernel
theorem dX9_element_22 : decode cX9_element 22 = .ok (.iload_n 2, 1) := by decide +kernel
theorem dX9_element_23 : decode cX9_element 23 = .ok (.aload_n 0, 1) := by decide +kernel
theorem dX9_element_24 : decode cX9_element 24 = .ok (.getfield 50, 3) := by decide +kernel
theorem dX9_element_27 : decode cX9_element 27 = .ok (.iload_n 1, 1) := by decide +kernel
theorem dX9_element_28 : decode cX9_element 28 = .ok (.iaload, 1) := by decide +kernel
theorem dX9_element_29 : decode cX9_element 29 = .ok (.if_icmp .ge 18, 3) := by decide +kernel
theorem dX9_element_32 : decode cX9_element 32 = .ok (.aload_n 0, 1) := by decide +kernel
theorem dX9_element_33 : decode cX9_element 33 = .ok (.getfield 56, 3) := by decide +kernel
theorem dX9_element_36 : decode cX9_element 36 = .ok (.sipush 160, 3) := by decide +kernel
theorem dX9_element_39 : decode cX9_element 39 = .ok (.iload_n 1, 1) := by decide +kernel
theorem dX9_element_40 : decode cX9_element 40 = .ok (.imul, 1) := by decide +kernel
theorem dX9_element_41 : decode cX9_element 41 = .ok (.iload_n 2, 1) := by decide +kernel
theorem dX9_element_42 : decode cX9_element 42 = .ok (.iadd, 1) := by decide +kernel
theorem dX9_element_43 : decode cX9_element 43 = .ok (.laload, 1) := by decide +kernel
theorem dX9_element_44 : decode cX9_element 44 = .ok (.goto 4, 3) := by decide +kernel
theorem dX9_element_47 : decode cX9_element 47 = .ok (.lconst 0, 1) := by decide +kernel
theorem dX9_element_48 : decode cX9_element 48 = .ok (.lreturn, 1) := by decide +kernel
theorem dX9_show_0 : decode cX9_show 0 = .ok (.aload_n 0, 1) := by decide +kernel
theorem dX9_show_1 : decode cX9_show 1 = .ok (.iload_n 1, 1) := by decide +kernel
theorem dX9_show_2 : decode cX9_show 2 = .ok (.invokevirtual 103, 3) := by decide +kernel
theorem dX9_show_5 : decode cX9_show 5 = .ok (.ifCond .eq 16, 3) := by decide +kernel
theorem dX9_show_8 : decode cX9_show 8 = .ok (.iload_n 2, 1) := by decide +kernel
theorem dX9_show_9 : decode cX9_show 9 = .ok (.iconst (-1), 1) := by decide +kernel
theorem dX9_show_10 : decode cX9_show 10 = .ok (.if_icmp .eq 17, 3) := by decide +kernel
theorem dX9_show_13 : decode cX9_show 13 = .ok (.aload_n 0, 1) := by decide +kernel
theorem dX9_show_14 : decode cX9_show 14 = .ok (.iload_n 2, 1) := by decide +kernel
theorem dX9_show_15 : decode cX9_show 15 = .ok (.invokevirtual 111, 3) := by decide +kernel
theorem dX9_show_18 : decode cX9_show 18 = .ok (.ifCond .ne 9, 3) := by decide +kernel
theorem dX9_show_21 : decode cX9_show 21 = .ok (.aload_n 0, 1) := by decide +kernel
theorem dX9_show_22 : decode cX9_show 22 = .ok (.iconst (-1), 1) := by decide +kernel
theorem dX9_show_23 : decode cX9_show 23 = .ok (.invokevirtual 107, 3) := by decide +kernel
theorem dX9_show_26 : decode cX9_show 26 = .ok (.ireturn, 1) := by decide +kernel
theorem dX9_show_27 : decode cX9_show 27 = .ok (.aload_n 0, 1) := by decide +kernel
theorem dX9_show_28 : decode cX9_show 28 = .ok (.getfield 44, 3) := by decide +kernel
theorem dX9_show_31 : decode cX9_show 31 = .ok (.iload_n 1, 1) := by decide +kernel
theorem dX9_show_32 : decode cX9_show 32 = .ok (.iload_n 2, 1) := by decide +kernel
theorem dX9_show_33 : decode cX9_show 33 = .ok (.iconst (-1), 1) := by decide +kernel
theorem dX9_show_34 : decode cX9_show 34 = .ok (.if_icmp .ne 7, 3) := by decide +kernel
theorem dX9_show_37 : decode cX9_show 37 = .ok (.iconst 0, 1) := by decide +kernel
theorem dX9_show_38 : decode cX9_show 38 = .ok (.goto 4, 3) := by decide +kernel
theorem dX9_show_41 : decode cX9_show 41 = .ok (.iconst 2, 1) := by decide +kernel
theorem dX9_show_42 : decode cX9_show 42 = .ok (.iastore, 1) := by decide +kernel
theorem dX9_show_43 : decode cX9_show 43 = .ok (.aload_n 0, 1) := by decide +kernel
theorem dX9_show_44 : decode cX9_show 44 = .ok (.getfield 53, 3) := by decide +kernel
theorem dX9_show_47 : decode cX9_show 47 = .ok (.iload_n 1, 1) := by decide +kernel
theorem dX9_show_48 : decode cX9_show 48 = .ok (.iload_n 2, 1) := by decide +kernel
theorem dX9_show_49 : decode cX9_show 49 = .ok (.iastore, 1) := by decide +kernel
theorem dX9_show_50 : decode cX9_show 50 = .ok (.iload_n 2, 1) := by decide +kernel
theorem dX9_show_51 : decode cX9_show 51 = .ok (.iconst (-1), 1) := by decide +kernel
theorem dX9_show_52 : decode cX9_show 52 = .ok (.if_icmp .ne 7, 3) := by decide +kernel
theorem dX9_show_55 : decode cX9_show 55 = .ok (.iconst 0, 1) := by decide +kernel
theorem dX9_show_56 : decode cX9_show 56 = .ok (.goto 4, 3) := by decide +kernel
theorem dX9_show_59 : decode cX9_show 59 = .ok (.iconst 1, 1) := by decide +kernel
theorem dX9_show_60 : decode cX9_show 60 = .ok (.ireturn, 1) := by decide +kernel
theorem dX9_holds_0 : decode cX9_holds 0 = .ok (.aload_n 0, 1) := by decide +kernel
theorem dX9_holds_1 : decode cX9_holds 1 = .ok (.iload_n 1, 1) := by decide +kernel
theorem dX9_holds_2 : decode cX9_holds 2 = .ok (.invokevirtual 103, 3) := by decide +kernel
theorem dX9_holds_5 : decode cX9_holds 5 = .ok (.ifCond .eq 12, 3) := by decide +kernel
theorem dX9_holds_8 : decode cX9_holds 8 = .ok (.aload_n 0, 1) := by decide +kernel
theorem dX9_holds_9 : decode cX9_holds 9 = .ok (.getfield 44, 3) := by decide +kernel
theorem dX9_holds_12 : decode cX9_holds 12 = .ok (.iload_n 1, 1) := by decide +kernel
theorem dX9_holds_13 : decode cX9_holds 13 = .ok (.iaload, 1) := by decide +kernel
theorem dX9_holds_14 : decode cX9_holds 14 = .ok (.ifCond .ne 5, 3) := by decide +kernel
theorem dX9_holds_17 : decode cX9_holds 17 = .ok (.iconst (-1), 1) := by decide +kernel
theorem dX9_holds_18 : decode cX9_holds 18 = .ok (.ireturn, 1) := by decide +kernel
theorem dX9_holds_19 : decode cX9_holds 19 = .ok (.aload_n 0, 1) := by decide +kernel
theorem dX9_holds_20 : decode cX9_holds 20 = .ok (.getfield 44, 3) := by decide +kernel
theorem dX9_holds_23 : decode cX9_holds 23 = .ok (.iload_n 1, 1) := by decide +kernel
theorem dX9_holds_24 : decode cX9_holds 24 = .ok (.iaload, 1) := by decide +kernel
theorem dX9_holds_25 : decode cX9_holds 25 = .ok (.iconst 1, 1) := by decide +kernel
theorem dX9_holds_26 : decode cX9_holds 26 = .ok (.if_icmp .ne 15, 3) := by decide +kernel
theorem dX9_holds_29 : decode cX9_holds 29 = .ok (.bipush 100, 2) := by decide +kernel
theorem dX9_holds_31 : decode cX9_holds 31 = .ok (.aload_n 0, 1) := by decide +kernel
theorem dX9_holds_32 : decode cX9_holds 32 = .ok (.getfield 47, 3) := by decide +kernel
theorem dX9_holds_35 : decode cX9_holds 35 = .ok (.iload_n 1, 1) := by decide +kernel
theorem dX9_holds_36 : decode cX9_holds 36 = .ok (.iaload, 1) := by decide +kernel
theorem dX9_holds_37 : decode cX9_holds 37 = .ok (.iadd, 1) := by decide +kernel
theorem dX9_holds_38 : decode cX9_holds 38 = .ok (.goto 9, 3) := by decide +kernel
theorem dX9_holds_41 : decode cX9_holds 41 = .ok (.aload_n 0, 1) := by decide +kernel
theorem dX9_holds_42 : decode cX9_holds 42 = .ok (.getfield 53, 3) := by decide +kernel
theorem dX9_holds_45 : decode cX9_holds 45 = .ok (.iload_n 1, 1) := by decide +kernel
theorem dX9_holds_46 : decode cX9_holds 46 = .ok (.iaload, 1) := by decide +kernel
theorem dX9_holds_47 : decode cX9_holds 47 = .ok (.ireturn, 1) := by decide +kernel
theorem dX9_says_0 : decode cX9_says 0 = .ok (.aload_n 0, 1) := by decide +kernel
theorem dX9_says_1 : decode cX9_says 1 = .ok (.iload_n 1, 1) := by decide +kernel
theorem dX9_says_2 : decode cX9_says 2 = .ok (.invokevirtual 103, 3) := by decide +kernel
theorem dX9_says_5 : decode cX9_says 5 = .ok (.ifCond .eq 13, 3) := by decide +kernel
theorem dX9_says_8 : decode cX9_says 8 = .ok (.iload_n 2, 1) := by decide +kernel
theorem dX9_says_9 : decode cX9_says 9 = .ok (.ifCond .lt 9, 3) := by decide +kernel
theorem dX9_says_12 : decode cX9_says 12 = .ok (.iload_n 2, 1) := by decide +kernel
theorem dX9_says_13 : decode cX9_says 13 = .ok (.bipush 6, 2) := by decide +kernel
theorem dX9_says_15 : decode cX9_says 15 = .ok (.if_icmp .le 9, 3) := by decide +kernel
theorem dX9_says_18 : decode cX9_says 18 = .ok (.aload_n 0, 1) := by decide +kernel
theorem dX9_says_19 : decode cX9_says 19 = .ok (.iconst (-1), 1) := by decide +kernel
theorem dX9_says_20 : decode cX9_says 20 = .ok (.invokevirtual 107, 3) := by decide +kernel
theorem dX9_says_23 : decode cX9_says 23 = .ok (.ireturn, 1) := by decide +kernel
theorem dX9_says_24 : decode cX9_says 24 = .ok (.aload_n 0, 1) := by decide +kernel
theorem dX9_says_25 : decode cX9_says 25 = .ok (.getfield 44, 3) := by decide +kernel
theorem dX9_says_28 : decode cX9_says 28 = .ok (.iload_n 1, 1) := by decide +kernel
theorem dX9_says_29 : decode cX9_says 29 = .ok (.iaload, 1) := by decide +kernel
theorem dX9_says_30 : decode cX9_says 30 = .ok (.iconst 1, 1) := by decide +kernel
theorem dX9_says_31 : decode cX9_says 31 = .ok (.if_icmp .ne 10, 3) := by decide +kernel
theorem dX9_says_34 : decode cX9_says 34 = .ok (.aload_n 0, 1) := by decide +kernel
theorem dX9_says_35 : decode cX9_says 35 = .ok (.bipush (-2), 2) := by decide +kernel
theorem dX9_says_37 : decode cX9_says 37 = .ok (.invokevirtual 107, 3) := by decide +kernel
theorem dX9_says_40 : decode cX9_says 40 = .ok (.ireturn, 1) := by decide +kernel
theorem dX9_says_41 : decode cX9_says 41 = .ok (.aload_n 0, 1) := by decide +kernel
theorem dX9_says_42 : decode cX9_says 42 = .ok (.getfield 44, 3) := by decide +kernel
theorem dX9_says_45 : decode cX9_says 45 = .ok (.iload_n 1, 1) := by decide +kernel
theorem dX9_says_46 : decode cX9_says 46 = .ok (.iaload, 1) := by decide +kernel
theorem dX9_says_47 : decode cX9_says 47 = .ok (.ifCond .ne 10, 3) := by decide +kernel
theorem dX9_says_50 : decode cX9_says 50 = .ok (.aload_n 0, 1) := by decide +kernel
theorem dX9_says_51 : decode cX9_says 51 = .ok (.bipush (-3), 2) := by decide +kernel
theorem dX9_says_53 : decode cX9_says 53 = .ok (.invokevirtual 107, 3) := by decide +kernel
theorem dX9_says_56 : decode cX9_says 56 = .ok (.ireturn, 1) := by decide +kernel
theorem dX9_says_57 : decode cX9_says 57 = .ok (.aload_n 0, 1) := by decide +kernel
theorem dX9_says_58 : decode cX9_says 58 = .ok (.getfield 53, 3) := by decide +kernel
theorem dX9_says_61 : decode cX9_says 61 = .ok (.iload_n 1, 1) := by decide +kernel
theorem dX9_says_62 : decode cX9_says 62 = .ok (.iaload, 1) := by decide +kernel
theorem dX9_says_63 : decode cX9_says 63 = .ok (.istore_n 3, 1) := by decide +kernel
theorem dX9_says_64 : decode cX9_says 64 = .ok (.aload_n 0, 1) := by decide +kernel
theorem dX9_says_65 : decode cX9_says 65 = .ok (.getfield 26, 3) := by decide +kernel
theorem dX9_says_68 : decode cX9_says 68 = .ok (.iload_n 3, 1) := by decide +kernel
theorem dX9_says_69 : decode cX9_says 69 = .ok (.iaload, 1) := by decide +kernel
theorem dX9_says_70 : decode cX9_says 70 = .ok (.istore 4, 2) := by decide +kernel
theorem dX9_says_72 : decode cX9_says 72 = .ok (.iload_n 2, 1) := by decide +kernel
theorem dX9_says_73 : decode cX9_says 73 = .ok (.iconst 1, 1) := by decide +kernel
theorem dX9_says_74 : decode cX9_says 74 = .ok (.if_icmp .ne 9, 3) := by decide +kernel
theorem dX9_says_77 : decode cX9_says 77 = .ok (.iload 4, 2) := by decide +kernel
theorem dX9_says_79 : decode cX9_says 79 = .ok (.iconst 3, 1) := by decide +kernel
theorem dX9_says_80 : decode cX9_says 80 = .ok (.if_icmp .eq 26, 3) := by decide +kernel
theorem dX9_says_83 : decode cX9_says 83 = .ok (.iload_n 2, 1) := by decide +kernel
theorem dX9_says_84 : decode cX9_says 84 = .ok (.iconst 2, 1) := by decide +kernel
theorem dX9_says_85 : decode cX9_says 85 = .ok (.if_icmp .ne 9, 3) := by decide +kernel
theorem dX9_says_88 : decode cX9_says 88 = .ok (.iload 4, 2) := by decide +kernel
theorem dX9_says_90 : decode cX9_says 90 = .ok (.iconst 5, 1) := by decide +kernel
theorem dX9_says_91 : decode cX9_says 91 = .ok (.if_icmp .eq 15, 3) := by decide +kernel
theorem dX9_says_94 : decode cX9_says 94 = .ok (.iload_n 2, 1) := by decide +kernel
theorem dX9_says_95 : decode cX9_says 95 = .ok (.iconst 4, 1) := by decide +kernel
theorem dX9_says_96 : decode cX9_says 96 = .ok (.if_icmp .ne 14, 3) := by decide +kernel
theorem dX9_says_99 : decode cX9_says 99 = .ok (.iload 4, 2) := by decide +kernel
theorem dX9_says_101 : decode cX9_says 101 = .ok (.bipush 6, 2) := by decide +kernel
theorem dX9_says_103 : decode cX9_says 103 = .ok (.if_icmp .ne 7, 3) := by decide +kernel
theorem dX9_says_106 : decode cX9_says 106 = .ok (.iconst 1, 1) := by decide +kernel
theorem dX9_says_107 : decode cX9_says 107 = .ok (.goto 4, 3) := by decide +kernel
theorem dX9_says_110 : decode cX9_says 110 = .ok (.iconst 0, 1) := by decide +kernel
theorem dX9_says_111 : decode cX9_says 111 = .ok (.istore 5, 2) := by decide +kernel
theorem dX9_says_113 : decode cX9_says 113 = .ok (.iload_n 2, 1) := by decide +kernel
theorem dX9_says_114 : decode cX9_says 114 = .ok (.ifCond .eq 21, 3) := by decide +kernel
theorem dX9_says_117 : decode cX9_says 117 = .ok (.iload_n 2, 1) := by decide +kernel
theorem dX9_says_118 : decode cX9_says 118 = .ok (.iload 4, 2) := by decide +kernel
theorem dX9_says_120 : decode cX9_says 120 = .ok (.if_icmp .eq 15, 3) := by decide +kernel
theorem dX9_says_123 : decode cX9_says 123 = .ok (.iload 5, 2) := by decide +kernel
theorem dX9_says_125 : decode cX9_says 125 = .ok (.ifCond .ne 10, 3) := by decide +kernel
theorem dX9_says_128 : decode cX9_says 128 = .ok (.aload_n 0, 1) := by decide +kernel
theorem dX9_says_129 : decode cX9_says 129 = .ok (.bipush (-2), 2) := by decide +kernel
theorem dX9_says_131 : decode cX9_says 131 = .ok (.invokevirtual 107, 3) := by decide +kernel
theorem dX9_says_134 : decode cX9_says 134 = .ok (.ireturn, 1) := by decide +kernel
theorem dX9_says_135 : decode cX9_says 135 = .ok (.iload_n 2, 1) := by decide +kernel
theorem dX9_says_136 : decode cX9_says 136 = .ok (.tableswitch 69 0 5 #[40, 47, 60, 47, 69, 60], 40) := by decide +kernel
theorem dX9_says_176 : decode cX9_says 176 = .ok (.aload_n 0, 1) := by decide +kernel
theorem dX9_says_177 : decode cX9_says 177 = .ok (.getfield 35, 3) := by decide +kernel
theorem dX9_says_180 : decode cX9_says 180 = .ok (.iload_n 3, 1) := by decide +kernel
theorem dX9_says_181 : decode cX9_says 181 = .ok (.iaload, 1) := by decide +kernel
theorem dX9_says_182 : decode cX9_says 182 = .ok (.ireturn, 1) := by decide +kernel
theorem dX9_says_183 : decode cX9_says 183 = .ok (.aload_n 0, 1) := by decide +kernel
theorem dX9_says_184 : decode cX9_says 184 = .ok (.aload_n 0, 1) := by decide +kernel
theorem dX9_says_185 : decode cX9_says 185 = .ok (.getfield 35, 3) := by decide +kernel
theorem dX9_says_188 : decode cX9_says 188 = .ok (.iload_n 3, 1) := by decide +kernel
theorem dX9_says_189 : decode cX9_says 189 = .ok (.iaload, 1) := by decide +kernel
theorem dX9_says_190 : decode cX9_says 190 = .ok (.iconst 1, 1) := by decide +kernel
theorem dX9_says_191 : decode cX9_says 191 = .ok (.isub, 1) := by decide +kernel
theorem dX9_says_192 : decode cX9_says 192 = .ok (.invokevirtual 114, 3) := by decide +kernel
theorem dX9_says_195 : decode cX9_says 195 = .ok (.ireturn, 1) := by decide +kernel
theorem dX9_says_196 : decode cX9_says 196 = .ok (.aload_n 0, 1) := by decide +kernel
theorem dX9_says_197 : decode cX9_says 197 = .ok (.getfield 29, 3) := by decide +kernel
theorem dX9_says_200 : decode cX9_says 200 = .ok (.iload_n 3, 1) := by decide +kernel
theorem dX9_says_201 : decode cX9_says 201 = .ok (.iaload, 1) := by decide +kernel
theorem dX9_says_202 : decode cX9_says 202 = .ok (.iconst 2, 1) := by decide +kernel
theorem dX9_says_203 : decode cX9_says 203 = .ok (.iadd, 1) := by decide +kernel
theorem dX9_says_204 : decode cX9_says 204 = .ok (.ireturn, 1) := by decide +kernel
theorem dX9_says_205 : decode cX9_says 205 = .ok (.aload_n 0, 1) := by decide +kernel
theorem dX9_says_206 : decode cX9_says 206 = .ok (.getfield 29, 3) := by decide +kernel
theorem dX9_says_209 : decode cX9_says 209 = .ok (.iload_n 3, 1) := by decide +kernel
theorem dX9_says_210 : decode cX9_says 210 = .ok (.iaload, 1) := by decide +kernel
theorem dX9_says_211 : decode cX9_says 211 = .ok (.ireturn, 1) := by decide +kernel
theorem dX9_wanted_0 : decode cX9_wanted 0 = .ok (.aload_n 0, 1) := by decide +kernel
theorem dX9_wanted_1 : decode cX9_wanted 1 = .ok (.iload_n 1, 1) := by decide +kernel
theorem dX9_wanted_2 : decode cX9_wanted 2 = .ok (.invokevirtual 103, 3) := by decide +kernel
theorem dX9_wanted_5 : decode cX9_wanted 5 = .ok (.ifCond .ne 7, 3) := by decide +kernel
theorem dX9_wanted_8 : decode cX9_wanted 8 = .ok (.iconst (-1), 1) := by decide +kernel
theorem dX9_wanted_9 : decode cX9_wanted 9 = .ok (.goto 33, 3) := by decide +kernel
theorem dX9_wanted_12 : decode cX9_wanted 12 = .ok (.aload_n 0, 1) := by decide +kernel
theorem dX9_wanted_13 : decode cX9_wanted 13 = .ok (.getfield 44, 3) := by decide +kernel
theorem dX9_wanted_16 : decode cX9_wanted 16 = .ok (.iload_n 1, 1) := by decide +kernel
theorem dX9_wanted_17 : decode cX9_wanted 17 = .ok (.iaload, 1) := by decide +kernel
theorem dX9_wanted_18 : decode cX9_wanted 18 = .ok (.iconst 2, 1) := by decide +kernel
theorem dX9_wanted_19 : decode cX9_wanted 19 = .ok (.if_icmp .ne 8, 3) := by decide +kernel
theorem dX9_wanted_22 : decode cX9_wanted 22 = .ok (.bipush (-2), 2) := by decide +kernel
theorem dX9_wanted_24 : decode cX9_wanted 24 = .ok (.goto 18, 3) := by decide +kernel
theorem dX9_wanted_27 : decode cX9_wanted 27 = .ok (.aload_n 0, 1) := by decide +kernel
theorem dX9_wanted_28 : decode cX9_wanted 28 = .ok (.getfield 44, 3) := by decide +kernel
theorem dX9_wanted_31 : decode cX9_wanted 31 = .ok (.iload_n 1, 1) := by decide +kernel
theorem dX9_wanted_32 : decode cX9_wanted 32 = .ok (.iaload, 1) := by decide +kernel
theorem dX9_wanted_33 : decode cX9_wanted 33 = .ok (.ifCond .ne 8, 3) := by decide +kernel
theorem dX9_wanted_36 : decode cX9_wanted 36 = .ok (.bipush (-3), 2) := by decide +kernel
theorem dX9_wanted_38 : decode cX9_wanted 38 = .ok (.goto 4, 3) := by decide +kernel
theorem dX9_wanted_41 : decode cX9_wanted 41 = .ok (.iconst 0, 1) := by decide +kernel
theorem dX9_wanted_42 : decode cX9_wanted 42 = .ok (.ireturn, 1) := by decide +kernel
theorem dX9_intAt_0 : decode cX9_intAt 0 = .ok (.aload_n 0, 1) := by decide +kernel
theorem dX9_intAt_1 : decode cX9_intAt 1 = .ok (.getfield 56, 3) := by decide +kernel
theorem dX9_intAt_4 : decode cX9_intAt 4 = .ok (.sipush 160, 3) := by decide +kernel
theorem dX9_intAt_7 : decode cX9_intAt 7 = .ok (.iload_n 1, 1) := by decide +kernel
theorem dX9_intAt_8 : decode cX9_intAt 8 = .ok (.imul, 1) := by decide +kernel
theorem dX9_intAt_9 : decode cX9_intAt 9 = .ok (.iload_n 2, 1) := by decide +kernel
theorem dX9_intAt_10 : decode cX9_intAt 10 = .ok (.iadd, 1) := by decide +kernel
theorem dX9_intAt_11 : decode cX9_intAt 11 = .ok (.laload, 1) := by decide +kernel
theorem dX9_intAt_12 : decode cX9_intAt 12 = .ok (.l2i, 1) := by decide +kernel
theorem dX9_intAt_13 : decode cX9_intAt 13 = .ok (.ireturn, 1) := by decide +kernel
theorem dX9_bars_0 : decode cX9_bars 0 = .ok (.aload_n 0, 1) := by decide +kernel
theorem dX9_bars_1 : decode cX9_bars 1 = .ok (.iload_n 1, 1) := by decide +kernel
theorem dX9_bars_2 : decode cX9_bars 2 = .ok (.invokevirtual 117, 3) := by decide +kernel
theorem dX9_bars_5 : decode cX9_bars 5 = .ok (.istore_n 3, 1) := by decide +kernel
theorem dX9_bars_6 : decode cX9_bars 6 = .ok (.iload_n 3, 1) := by decide +kernel
theorem dX9_bars_7 : decode cX9_bars 7 = .ok (.ifCond .eq 5, 3) := by decide +kernel
theorem dX9_bars_10 : decode cX9_bars 10 = .ok (.iload_n 3, 1) := by decide +kernel
theorem dX9_bars_11 : decode cX9_bars 11 = .ok (.ireturn, 1) := by decide +kernel
theorem dX9_bars_12 : decode cX9_bars 12 = .ok (.iload_n 2, 1) := by decide +kernel
theorem dX9_bars_13 : decode cX9_bars 13 = .ok (.ifCond .ge 8, 3) := by decide +kernel
theorem dX9_bars_16 : decode cX9_bars 16 = .ok (.bipush (-4), 2) := by decide +kernel
theorem dX9_bars_18 : decode cX9_bars 18 = .ok (.goto 19, 3) := by decide +kernel
theorem dX9_bars_21 : decode cX9_bars 21 = .ok (.iload_n 2, 1) := by decide +kernel
theorem dX9_bars_22 : decode cX9_bars 22 = .ok (.aload_n 0, 1) := by decide +kernel
theorem dX9_bars_23 : decode cX9_bars 23 = .ok (.getfield 50, 3) := by decide +kernel
theorem dX9_bars_26 : decode cX9_bars 26 = .ok (.iload_n 1, 1) := by decide +kernel
theorem dX9_bars_27 : decode cX9_bars 27 = .ok (.iaload, 1) := by decide +kernel
theorem dX9_bars_28 : decode cX9_bars 28 = .ok (.if_icmp .le 8, 3) := by decide +kernel
theorem dX9_bars_31 : decode cX9_bars 31 = .ok (.bipush (-5), 2) := by decide +kernel
theorem dX9_bars_33 : decode cX9_bars 33 = .ok (.goto 4, 3) := by decide +kernel
theorem dX9_bars_36 : decode cX9_bars 36 = .ok (.iconst 0, 1) := by decide +kernel
theorem dX9_bars_37 : decode cX9_bars 37 = .ok (.ireturn, 1) := by decide +kernel
theorem dX9_anew_0 : decode cX9_anew 0 = .ok (.aload_n 0, 1) := by decide +kernel
theorem dX9_anew_1 : decode cX9_anew 1 = .ok (.aload_n 0, 1) := by decide +kernel
theorem dX9_anew_2 : decode cX9_anew 2 = .ok (.getfield 96, 3) := by decide +kernel
theorem dX9_anew_5 : decode cX9_anew 5 = .ok (.ifCond .ne 7, 3) := by decide +kernel
theorem dX9_anew_8 : decode cX9_anew 8 = .ok (.iconst 0, 1) := by decide +kernel
theorem dX9_anew_9 : decode cX9_anew 9 = .ok (.goto 4, 3) := by decide +kernel
theorem dX9_anew_12 : decode cX9_anew 12 = .ok (.iconst 1, 1) := by decide +kernel
theorem dX9_anew_13 : decode cX9_anew 13 = .ok (.putfield 120, 3) := by decide +kernel
theorem dX9_anew_16 : decode cX9_anew 16 = .ok (.aload_n 0, 1) := by decide +kernel
theorem dX9_anew_17 : decode cX9_anew 17 = .ok (.iconst 0, 1) := by decide +kernel
theorem dX9_anew_18 : decode cX9_anew 18 = .ok (.putfield 123, 3) := by decide +kernel
theorem dX9_anew_21 : decode cX9_anew 21 = .ok (.return_, 1) := by decide +kernel
theorem dX9_adds_0 : decode cX9_adds 0 = .ok (.aload_n 0, 1) := by decide +kernel
theorem dX9_adds_1 : decode cX9_adds 1 = .ok (.getfield 26, 3) := by decide +kernel
theorem dX9_adds_4 : decode cX9_adds 4 = .ok (.aload_n 0, 1) := by decide +kernel
theorem dX9_adds_5 : decode cX9_adds 5 = .ok (.getfield 96, 3) := by decide +kernel
theorem dX9_adds_8 : decode cX9_adds 8 = .ok (.iload_n 1, 1) := by decide +kernel
theorem dX9_adds_9 : decode cX9_adds 9 = .ok (.iastore, 1) := by decide +kernel
theorem dX9_adds_10 : decode cX9_adds 10 = .ok (.aload_n 0, 1) := by decide +kernel
theorem dX9_adds_11 : decode cX9_adds 11 = .ok (.getfield 29, 3) := by decide +kernel
theorem dX9_adds_14 : decode cX9_adds 14 = .ok (.aload_n 0, 1) := by decide +kernel
theorem dX9_adds_15 : decode cX9_adds 15 = .ok (.getfield 96, 3) := by decide +kernel
theorem dX9_adds_18 : decode cX9_adds 18 = .ok (.iload_n 2, 1) := by decide +kernel
theorem dX9_adds_19 : decode cX9_adds 19 = .ok (.iastore, 1) := by decide +kernel
theorem dX9_adds_20 : decode cX9_adds 20 = .ok (.aload_n 0, 1) := by decide +kernel
theorem dX9_adds_21 : decode cX9_adds 21 = .ok (.getfield 32, 3) := by decide +kernel
theorem dX9_adds_24 : decode cX9_adds 24 = .ok (.aload_n 0, 1) := by decide +kernel
theorem dX9_adds_25 : decode cX9_adds 25 = .ok (.getfield 96, 3) := by decide +kernel
theorem dX9_adds_28 : decode cX9_adds 28 = .ok (.iload_n 3, 1) := by decide +kernel
theorem dX9_adds_29 : decode cX9_adds 29 = .ok (.iastore, 1) := by decide +kernel
theorem dX9_adds_30 : decode cX9_adds 30 = .ok (.aload_n 0, 1) := by decide +kernel
theorem dX9_adds_31 : decode cX9_adds 31 = .ok (.getfield 35, 3) := by decide +kernel
theorem dX9_adds_34 : decode cX9_adds 34 = .ok (.aload_n 0, 1) := by decide +kernel
theorem dX9_adds_35 : decode cX9_adds 35 = .ok (.getfield 96, 3) := by decide +kernel
theorem dX9_adds_38 : decode cX9_adds 38 = .ok (.aload_n 0, 1) := by decide +kernel
theorem dX9_adds_39 : decode cX9_adds 39 = .ok (.getfield 96, 3) := by decide +kernel
theorem dX9_adds_42 : decode cX9_adds 42 = .ok (.iastore, 1) := by decide +kernel
theorem dX9_adds_43 : decode cX9_adds 43 = .ok (.aload_n 0, 1) := by decide +kernel
theorem dX9_adds_44 : decode cX9_adds 44 = .ok (.dup, 1) := by decide +kernel
theorem dX9_adds_45 : decode cX9_adds 45 = .ok (.getfield 96, 3) := by decide +kernel
theorem dX9_adds_48 : decode cX9_adds 48 = .ok (.iconst 1, 1) := by decide +kernel
theorem dX9_adds_49 : decode cX9_adds 49 = .ok (.iadd, 1) := by decide +kernel
theorem dX9_adds_50 : decode cX9_adds 50 = .ok (.putfield 96, 3) := by decide +kernel
theorem dX9_adds_53 : decode cX9_adds 53 = .ok (.aload_n 0, 1) := by decide +kernel
theorem dX9_adds_54 : decode cX9_adds 54 = .ok (.invokevirtual 126, 3) := by decide +kernel
theorem dX9_adds_57 : decode cX9_adds 57 = .ok (.aload_n 0, 1) := by decide +kernel
theorem dX9_adds_58 : decode cX9_adds 58 = .ok (.getfield 96, 3) := by decide +kernel
theorem dX9_adds_61 : decode cX9_adds 61 = .ok (.iconst 1, 1) := by decide +kernel
theorem dX9_adds_62 : decode cX9_adds 62 = .ok (.isub, 1) := by decide +kernel
theorem dX9_adds_63 : decode cX9_adds 63 = .ok (.ireturn, 1) := by decide +kernel
theorem dX9_singer_0 : decode cX9_singer 0 = .ok (.iload_n 1, 1) := by decide +kernel
theorem dX9_singer_1 : decode cX9_singer 1 = .ok (.ifCond .lt 9, 3) := by decide +kernel
theorem dX9_singer_4 : decode cX9_singer 4 = .ok (.iload_n 1, 1) := by decide +kernel
theorem dX9_singer_5 : decode cX9_singer 5 = .ok (.bipush 6, 2) := by decide +kernel
theorem dX9_singer_7 : decode cX9_singer 7 = .ok (.if_icmp .le 9, 3) := by decide +kernel
theorem dX9_singer_10 : decode cX9_singer 10 = .ok (.aload_n 0, 1) := by decide +kernel
theorem dX9_singer_11 : decode cX9_singer 11 = .ok (.iconst (-1), 1) := by decide +kernel
theorem dX9_singer_12 : decode cX9_singer 12 = .ok (.invokevirtual 107, 3) := by decide +kernel
theorem dX9_singer_15 : decode cX9_singer 15 = .ok (.ireturn, 1) := by decide +kernel
theorem dX9_singer_16 : decode cX9_singer 16 = .ok (.iload_n 2, 1) := by decide +kernel
theorem dX9_singer_17 : decode cX9_singer 17 = .ok (.ifCond .lt 20, 3) := by decide +kernel
theorem dX9_singer_20 : decode cX9_singer 20 = .ok (.iload_n 2, 1) := by decide +kernel
theorem dX9_singer_21 : decode cX9_singer 21 = .ok (.bipush 9, 2) := by decide +kernel
theorem dX9_singer_23 : decode cX9_singer 23 = .ok (.if_icmp .gt 14, 3) := by decide +kernel
theorem dX9_singer_26 : decode cX9_singer 26 = .ok (.iload_n 3, 1) := by decide +kernel
theorem dX9_singer_27 : decode cX9_singer 27 = .ok (.iconst 1, 1) := by decide +kernel
theorem dX9_singer_28 : decode cX9_singer 28 = .ok (.if_icmp .lt 9, 3) := by decide +kernel
theorem dX9_singer_31 : decode cX9_singer 31 = .ok (.iload_n 3, 1) := by decide +kernel
theorem dX9_singer_32 : decode cX9_singer 32 = .ok (.bipush 9, 2) := by decide +kernel
theorem dX9_singer_34 : decode cX9_singer 34 = .ok (.if_icmp .le 10, 3) := by decide +kernel
theorem dX9_singer_37 : decode cX9_singer 37 = .ok (.aload_n 0, 1) := by decide +kernel
theorem dX9_singer_38 : decode cX9_singer 38 = .ok (.bipush (-6), 2) := by decide +kernel
theorem dX9_singer_40 : decode cX9_singer 40 = .ok (.invokevirtual 107, 3) := by decide +kernel
theorem dX9_singer_43 : decode cX9_singer 43 = .ok (.ireturn, 1) := by decide +kernel
theorem dX9_singer_44 : decode cX9_singer 44 = .ok (.aload_n 0, 1) := by decide +kernel
theorem dX9_singer_45 : decode cX9_singer 45 = .ok (.getfield 96, 3) := by decide +kernel
theorem dX9_singer_48 : decode cX9_singer 48 = .ok (.bipush 8, 2) := by decide +kernel
theorem dX9_singer_50 : decode cX9_singer 50 = .ok (.if_icmp .ne 12, 3) := by decide +kernel
theorem dX9_singer_53 : decode cX9_singer 53 = .ok (.aload_n 0, 1) := by decide +kernel
theorem dX9_singer_54 : decode cX9_singer 54 = .ok (.bipush (-7), 2) := by decide +kernel
theorem dX9_singer_56 : decode cX9_singer 56 = .ok (.invokevirtual 107, 3) := by decide +kernel
theorem dX9_singer_59 : decode cX9_singer 59 = .ok (.goto 10, 3) := by decide +kernel
theorem dX9_singer_62 : decode cX9_singer 62 = .ok (.aload_n 0, 1) := by decide +kernel
theorem dX9_singer_63 : decode cX9_singer 63 = .ok (.iload_n 1, 1) := by decide +kernel
theorem dX9_singer_64 : decode cX9_singer 64 = .ok (.iload_n 2, 1) := by decide +kernel
theorem dX9_singer_65 : decode cX9_singer 65 = .ok (.iload_n 3, 1) := by decide +kernel
theorem dX9_singer_66 : decode cX9_singer 66 = .ok (.invokevirtual 129, 3) := by decide +kernel
theorem dX9_singer_69 : decode cX9_singer 69 = .ok (.ireturn, 1) := by decide +kernel
theorem dX9_who_0 : decode cX9_who 0 = .ok (.iconst 0, 1) := by decide +kernel
theorem dX9_who_1 : decode cX9_who 1 = .ok (.istore_n 2, 1) := by decide +kernel
theorem dX9_who_2 : decode cX9_who 2 = .ok (.iload_n 2, 1) := by decide +kernel
theorem dX9_who_3 : decode cX9_who 3 = .ok (.aload_n 0, 1) := by decide +kernel
theorem dX9_who_4 : decode cX9_who 4 = .ok (.getfield 96, 3) := by decide +kernel
theorem dX9_who_7 : decode cX9_who 7 = .ok (.if_icmp .ge 21, 3) := by decide +kernel
theorem dX9_who_10 : decode cX9_who 10 = .ok (.aload_n 0, 1) := by decide +kernel
theorem dX9_who_11 : decode cX9_who 11 = .ok (.getfield 35, 3) := by decide +kernel
theorem dX9_who_14 : decode cX9_who 14 = .ok (.iload_n 2, 1) := by decide +kernel
theorem dX9_who_15 : decode cX9_who 15 = .ok (.iaload, 1) := by decide +kernel
theorem dX9_who_16 : decode cX9_who 16 = .ok (.iload_n 1, 1) := by decide +kernel
theorem dX9_who_17 : decode cX9_who 17 = .ok (.if_icmp .ne 5, 3) := by decide +kernel
theorem dX9_who_20 : decode cX9_who 20 = .ok (.iload_n 2, 1) := by decide +kernel
theorem dX9_who_21 : decode cX9_who 21 = .ok (.ireturn, 1) := by decide +kernel
theorem dX9_who_22 : decode cX9_who 22 = .ok (.iinc 2 1, 3) := by decide +kernel
theorem dX9_who_25 : decode cX9_who 25 = .ok (.goto (-23), 3) := by decide +kernel
theorem dX9_who_28 : decode cX9_who 28 = .ok (.iconst (-1), 1) := by decide +kernel
theorem dX9_who_29 : decode cX9_who 29 = .ok (.ireturn, 1) := by decide +kernel
theorem dX9_singerOf_0 : decode cX9_singerOf 0 = .ok (.aload_n 0, 1) := by decide +kernel
theorem dX9_singerOf_1 : decode cX9_singerOf 1 = .ok (.iload_n 1, 1) := by decide +kernel
theorem dX9_singerOf_2 : decode cX9_singerOf 2 = .ok (.invokevirtual 111, 3) := by decide +kernel
theorem dX9_singerOf_5 : decode cX9_singerOf 5 = .ok (.ifCond .ne 10, 3) := by decide +kernel
theorem dX9_singerOf_8 : decode cX9_singerOf 8 = .ok (.aload_n 0, 1) := by decide +kernel
theorem dX9_singerOf_9 : decode cX9_singerOf 9 = .ok (.bipush (-5), 2) := by decide +kernel
theorem dX9_singerOf_11 : decode cX9_singerOf 11 = .ok (.invokevirtual 107, 3) := by decide +kernel
theorem dX9_singerOf_14 : decode cX9_singerOf 14 = .ok (.ireturn, 1) := by decide +kernel
theorem dX9_singerOf_15 : decode cX9_singerOf 15 = .ok (.iload_n 2, 1) := by decide +kernel
theorem dX9_singerOf_16 : decode cX9_singerOf 16 = .ok (.tableswitch 70 0 4 #[36, 43, 50, 57, 64], 36) := by decide +kernel
theorem dX9_singerOf_52 : decode cX9_singerOf 52 = .ok (.aload_n 0, 1) := by decide +kernel
theorem dX9_singerOf_53 : decode cX9_singerOf 53 = .ok (.getfield 26, 3) := by decide +kernel
theorem dX9_singerOf_56 : decode cX9_singerOf 56 = .ok (.iload_n 1, 1) := by decide +kernel
theorem dX9_singerOf_57 : decode cX9_singerOf 57 = .ok (.iaload, 1) := by decide +kernel
theorem dX9_singerOf_58 : decode cX9_singerOf 58 = .ok (.ireturn, 1) := by decide +kernel
theorem dX9_singerOf_59 : decode cX9_singerOf 59 = .ok (.aload_n 0, 1) := by decide +kernel
theorem dX9_singerOf_60 : decode cX9_singerOf 60 = .ok (.getfield 29, 3) := by decide +kernel
theorem dX9_singerOf_63 : decode cX9_singerOf 63 = .ok (.iload_n 1, 1) := by decide +kernel
theorem dX9_singerOf_64 : decode cX9_singerOf 64 = .ok (.iaload, 1) := by decide +kernel
theorem dX9_singerOf_65 : decode cX9_singerOf 65 = .ok (.ireturn, 1) := by decide +kernel
theorem dX9_singerOf_66 : decode cX9_singerOf 66 = .ok (.aload_n 0, 1) := by decide +kernel
theorem dX9_singerOf_67 : decode cX9_singerOf 67 = .ok (.getfield 32, 3) := by decide +kernel
theorem dX9_singerOf_70 : decode cX9_singerOf 70 = .ok (.iload_n 1, 1) := by decide +kernel
theorem dX9_singerOf_71 : decode cX9_singerOf 71 = .ok (.iaload, 1) := by decide +kernel
theorem dX9_singerOf_72 : decode cX9_singerOf 72 = .ok (.ireturn, 1) := by decide +kernel
theorem dX9_singerOf_73 : decode cX9_singerOf 73 = .ok (.aload_n 0, 1) := by decide +kernel
theorem dX9_singerOf_74 : decode cX9_singerOf 74 = .ok (.getfield 35, 3) := by decide +kernel
theorem dX9_singerOf_77 : decode cX9_singerOf 77 = .ok (.iload_n 1, 1) := by decide +kernel
theorem dX9_singerOf_78 : decode cX9_singerOf 78 = .ok (.iaload, 1) := by decide +kernel
theorem dX9_singerOf_79 : decode cX9_singerOf 79 = .ok (.ireturn, 1) := by decide +kernel
theorem dX9_singerOf_80 : decode cX9_singerOf 80 = .ok (.aload_n 0, 1) := by decide +kernel
theorem dX9_singerOf_81 : decode cX9_singerOf 81 = .ok (.iload_n 1, 1) := by decide +kernel
theorem dX9_singerOf_82 : decode cX9_singerOf 82 = .ok (.invokevirtual 133, 3) := by decide +kernel
theorem dX9_singerOf_85 : decode cX9_singerOf 85 = .ok (.ireturn, 1) := by decide +kernel
theorem dX9_singerOf_86 : decode cX9_singerOf 86 = .ok (.aload_n 0, 1) := by decide +kernel
theorem dX9_singerOf_87 : decode cX9_singerOf 87 = .ok (.bipush (-5), 2) := by decide +kernel
theorem dX9_singerOf_89 : decode cX9_singerOf 89 = .ok (.invokevirtual 107, 3) := by decide +kernel
theorem dX9_singerOf_92 : decode cX9_singerOf 92 = .ok (.ireturn, 1) := by decide +kernel
theorem dX9_isAsked_0 : decode cX9_isAsked 0 = .ok (.iload_n 1, 1) := by decide +kernel
theorem dX9_isAsked_1 : decode cX9_isAsked 1 = .ok (.ifCond .ne 21, 3) := by decide +kernel
theorem dX9_isAsked_4 : decode cX9_isAsked 4 = .ok (.iload_n 2, 1) := by decide +kernel
theorem dX9_isAsked_5 : decode cX9_isAsked 5 = .ok (.iconst 1, 1) := by decide +kernel
theorem dX9_isAsked_6 : decode cX9_isAsked 6 = .ok (.if_icmp .lt 12, 3) := by decide +kernel
theorem dX9_isAsked_9 : decode cX9_isAsked 9 = .ok (.iload_n 2, 1) := by decide +kernel
theorem dX9_isAsked_10 : decode cX9_isAsked 10 = .ok (.iconst 3, 1) := by decide +kernel
theorem dX9_isAsked_11 : decode cX9_isAsked 11 = .ok (.if_icmp .gt 7, 3) := by decide +kernel
theorem dX9_isAsked_14 : decode cX9_isAsked 14 = .ok (.iconst 1, 1) := by decide +kernel
theorem dX9_isAsked_15 : decode cX9_isAsked 15 = .ok (.goto 55, 3) := by decide +kernel
theorem dX9_isAsked_18 : decode cX9_isAsked 18 = .ok (.iconst 0, 1) := by decide +kernel
theorem dX9_isAsked_19 : decode cX9_isAsked 19 = .ok (.goto 51, 3) := by decide +kernel
theorem dX9_isAsked_22 : decode cX9_isAsked 22 = .ok (.iload_n 1, 1) := by decide +kernel
theorem dX9_isAsked_23 : decode cX9_isAsked 23 = .ok (.iconst 1, 1) := by decide +kernel
theorem dX9_isAsked_24 : decode cX9_isAsked 24 = .ok (.if_icmp .ne 22, 3) := by decide +kernel
theorem dX9_isAsked_27 : decode cX9_isAsked 27 = .ok (.iload_n 2, 1) := by decide +kernel
theorem dX9_isAsked_28 : decode cX9_isAsked 28 = .ok (.iconst 1, 1) := by decide +kernel
theorem dX9_isAsked_29 : decode cX9_isAsked 29 = .ok (.if_icmp .lt 13, 3) := by decide +kernel
theorem dX9_isAsked_32 : decode cX9_isAsked 32 = .ok (.iload_n 2, 1) := by decide +kernel
theorem dX9_isAsked_33 : decode cX9_isAsked 33 = .ok (.bipush 8, 2) := by decide +kernel
theorem dX9_isAsked_35 : decode cX9_isAsked 35 = .ok (.if_icmp .gt 7, 3) := by decide +kernel
theorem dX9_isAsked_38 : decode cX9_isAsked 38 = .ok (.iconst 1, 1) := by decide +kernel
theorem dX9_isAsked_39 : decode cX9_isAsked 39 = .ok (.goto 31, 3) := by decide +kernel
theorem dX9_isAsked_42 : decode cX9_isAsked 42 = .ok (.iconst 0, 1) := by decide +kernel
theorem dX9_isAsked_43 : decode cX9_isAsked 43 = .ok (.goto 27, 3) := by decide +kernel
theorem dX9_isAsked_46 : decode cX9_isAsked 46 = .ok (.iload_n 2, 1) := by decide +kernel
theorem dX9_isAsked_47 : decode cX9_isAsked 47 = .ok (.ifCond .lt 22, 3) := by decide +kernel
theorem dX9_isAsked_50 : decode cX9_isAsked 50 = .ok (.iload_n 2, 1) := by decide +kernel
theorem dX9_isAsked_51 : decode cX9_isAsked 51 = .ok (.iload_n 1, 1) := by decide +kernel
theorem dX9_isAsked_52 : decode cX9_isAsked 52 = .ok (.iconst 2, 1) := by decide +kernel
theorem dX9_isAsked_53 : decode cX9_isAsked 53 = .ok (.if_icmp .ne 7, 3) := by decide +kernel
theorem dX9_isAsked_56 : decode cX9_isAsked 56 = .ok (.iconst 1, 1) := by decide +kernel
theorem dX9_isAsked_57 : decode cX9_isAsked 57 = .ok (.goto 5, 3) := by decide +kernel
theorem dX9_isAsked_60 : decode cX9_isAsked 60 = .ok (.bipush 50, 2) := by decide +kernel
theorem dX9_isAsked_62 : decode cX9_isAsked 62 = .ok (.if_icmp .gt 7, 3) := by decide +kernel
theorem dX9_isAsked_65 : decode cX9_isAsked 65 = .ok (.iconst 1, 1) := by decide +kernel
theorem dX9_isAsked_66 : decode cX9_isAsked 66 = .ok (.goto 4, 3) := by decide +kernel
theorem dX9_isAsked_69 : decode cX9_isAsked 69 = .ok (.iconst 0, 1) := by decide +kernel
theorem dX9_isAsked_70 : decode cX9_isAsked 70 = .ok (.ireturn, 1) := by decide +kernel
theorem dX9_asks_0 : decode cX9_asks 0 = .ok (.iload_n 1, 1) := by decide +kernel
theorem dX9_asks_1 : decode cX9_asks 1 = .ok (.ifCond .ne 10, 3) := by decide +kernel
theorem dX9_asks_4 : decode cX9_asks 4 = .ok (.aload_n 0, 1) := by decide +kernel
theorem dX9_asks_5 : decode cX9_asks 5 = .ok (.getfield 7, 3) := by decide +kernel
theorem dX9_asks_8 : decode cX9_asks 8 = .ok (.goto 31, 3) := by decide +kernel
theorem dX9_asks_11 : decode cX9_asks 11 = .ok (.iload_n 1, 1) := by decide +kernel
theorem dX9_asks_12 : decode cX9_asks 12 = .ok (.iconst 1, 1) := by decide +kernel
theorem dX9_asks_13 : decode cX9_asks 13 = .ok (.if_icmp .ne 10, 3) := by decide +kernel
theorem dX9_asks_16 : decode cX9_asks 16 = .ok (.aload_n 0, 1) := by decide +kernel
theorem dX9_asks_17 : decode cX9_asks 17 = .ok (.getfield 13, 3) := by decide +kernel
theorem dX9_asks_20 : decode cX9_asks 20 = .ok (.goto 19, 3) := by decide +kernel
theorem dX9_asks_23 : decode cX9_asks 23 = .ok (.iload_n 1, 1) := by decide +kernel
theorem dX9_asks_24 : decode cX9_asks 24 = .ok (.iconst 2, 1) := by decide +kernel
theorem dX9_asks_25 : decode cX9_asks 25 = .ok (.if_icmp .ne 10, 3) := by decide +kernel
theorem dX9_asks_28 : decode cX9_asks 28 = .ok (.aload_n 0, 1) := by decide +kernel
theorem dX9_asks_29 : decode cX9_asks 29 = .ok (.getfield 136, 3) := by decide +kernel
theorem dX9_asks_32 : decode cX9_asks 32 = .ok (.goto 7, 3) := by decide +kernel
theorem dX9_asks_35 : decode cX9_asks 35 = .ok (.aload_n 0, 1) := by decide +kernel
theorem dX9_asks_36 : decode cX9_asks 36 = .ok (.getfield 139, 3) := by decide +kernel
theorem dX9_asks_39 : decode cX9_asks 39 = .ok (.istore_n 3, 1) := by decide +kernel
theorem dX9_asks_40 : decode cX9_asks 40 = .ok (.iload_n 1, 1) := by decide +kernel
theorem dX9_asks_41 : decode cX9_asks 41 = .ok (.tableswitch 55 0 2 #[27, 39, 47], 27) := by decide +kernel
theorem dX9_asks_68 : decode cX9_asks 68 = .ok (.aload_n 0, 1) := by decide +kernel
theorem dX9_asks_69 : decode cX9_asks 69 = .ok (.iload_n 2, 1) := by decide +kernel
theorem dX9_asks_70 : decode cX9_asks 70 = .ok (.putfield 7, 3) := by decide +kernel
theorem dX9_asks_73 : decode cX9_asks 73 = .ok (.aload_n 0, 1) := by decide +kernel
theorem dX9_asks_74 : decode cX9_asks 74 = .ok (.invokevirtual 126, 3) := by decide +kernel
theorem dX9_asks_77 : decode cX9_asks 77 = .ok (.goto 24, 3) := by decide +kernel
theorem dX9_asks_80 : decode cX9_asks 80 = .ok (.aload_n 0, 1) := by decide +kernel
theorem dX9_asks_81 : decode cX9_asks 81 = .ok (.iload_n 2, 1) := by decide +kernel
theorem dX9_asks_82 : decode cX9_asks 82 = .ok (.putfield 13, 3) := by decide +kernel
theorem dX9_asks_85 : decode cX9_asks 85 = .ok (.goto 16, 3) := by decide +kernel
theorem dX9_asks_88 : decode cX9_asks 88 = .ok (.aload_n 0, 1) := by decide +kernel
theorem dX9_asks_89 : decode cX9_asks 89 = .ok (.iload_n 2, 1) := by decide +kernel
theorem dX9_asks_90 : decode cX9_asks 90 = .ok (.putfield 136, 3) := by decide +kernel
theorem dX9_asks_93 : decode cX9_asks 93 = .ok (.goto 8, 3) := by decide +kernel
theorem dX9_asks_96 : decode cX9_asks 96 = .ok (.aload_n 0, 1) := by decide +kernel
theorem dX9_asks_97 : decode cX9_asks 97 = .ok (.iload_n 2, 1) := by decide +kernel
theorem dX9_asks_98 : decode cX9_asks 98 = .ok (.putfield 139, 3) := by decide +kernel
theorem dX9_asks_101 : decode cX9_asks 101 = .ok (.iload_n 3, 1) := by decide +kernel
theorem dX9_asks_102 : decode cX9_asks 102 = .ok (.ireturn, 1) := by decide +kernel
theorem dX9_ask_0 : decode cX9_ask 0 = .ok (.iload_n 1, 1) := by decide +kernel
theorem dX9_ask_1 : decode cX9_ask 1 = .ok (.ifCond .lt 26, 3) := by decide +kernel
theorem dX9_ask_4 : decode cX9_ask 4 = .ok (.iload_n 1, 1) := by decide +kernel
theorem dX9_ask_5 : decode cX9_ask 5 = .ok (.iconst 3, 1) := by decide +kernel
theorem dX9_ask_6 : decode cX9_ask 6 = .ok (.if_icmp .gt 21, 3) := by decide +kernel
theorem dX9_ask_9 : decode cX9_ask 9 = .ok (.aload_n 0, 1) := by decide +kernel
theorem dX9_ask_10 : decode cX9_ask 10 = .ok (.iload_n 1, 1) := by decide +kernel
theorem dX9_ask_11 : decode cX9_ask 11 = .ok (.iload_n 2, 1) := by decide +kernel
theorem dX9_ask_12 : decode cX9_ask 12 = .ok (.invokevirtual 142, 3) := by decide +kernel
theorem dX9_ask_15 : decode cX9_ask 15 = .ok (.ifCond .eq 12, 3) := by decide +kernel
theorem dX9_ask_18 : decode cX9_ask 18 = .ok (.aload_n 0, 1) := by decide +kernel
theorem dX9_ask_19 : decode cX9_ask 19 = .ok (.iload_n 1, 1) := by decide +kernel
theorem dX9_ask_20 : decode cX9_ask 20 = .ok (.iload_n 2, 1) := by decide +kernel
theorem dX9_ask_21 : decode cX9_ask 21 = .ok (.invokevirtual 146, 3) := by decide +kernel
theorem dX9_ask_24 : decode cX9_ask 24 = .ok (.goto 9, 3) := by decide +kernel
theorem dX9_ask_27 : decode cX9_ask 27 = .ok (.aload_n 0, 1) := by decide +kernel
theorem dX9_ask_28 : decode cX9_ask 28 = .ok (.bipush (-6), 2) := by decide +kernel
theorem dX9_ask_30 : decode cX9_ask 30 = .ok (.invokevirtual 107, 3) := by decide +kernel
theorem dX9_ask_33 : decode cX9_ask 33 = .ok (.ireturn, 1) := by decide +kernel
theorem dX9_changes_0 : decode cX9_changes 0 = .ok (.aload_n 0, 1) := by decide +kernel
theorem dX9_changes_1 : decode cX9_changes 1 = .ok (.getfield 35, 3) := by decide +kernel
theorem dX9_changes_4 : decode cX9_changes 4 = .ok (.iload_n 1, 1) := by decide +kernel
theorem dX9_changes_5 : decode cX9_changes 5 = .ok (.iaload, 1) := by decide +kernel
theorem dX9_changes_6 : decode cX9_changes 6 = .ok (.istore_n 3, 1) := by decide +kernel
theorem dX9_changes_7 : decode cX9_changes 7 = .ok (.aload_n 0, 1) := by decide +kernel
theorem dX9_changes_8 : decode cX9_changes 8 = .ok (.getfield 35, 3) := by decide +kernel
theorem dX9_changes_11 : decode cX9_changes 11 = .ok (.iload_n 1, 1) := by decide +kernel
theorem dX9_changes_12 : decode cX9_changes 12 = .ok (.aload_n 0, 1) := by decide +kernel
theorem dX9_changes_13 : decode cX9_changes 13 = .ok (.getfield 35, 3) := by decide +kernel
theorem dX9_changes_16 : decode cX9_changes 16 = .ok (.iload_n 2, 1) := by decide +kernel
theorem dX9_changes_17 : decode cX9_changes 17 = .ok (.iaload, 1) := by decide +kernel
theorem dX9_changes_18 : decode cX9_changes 18 = .ok (.iastore, 1) := by decide +kernel
theorem dX9_changes_19 : decode cX9_changes 19 = .ok (.aload_n 0, 1) := by decide +kernel
theorem dX9_changes_20 : decode cX9_changes 20 = .ok (.getfield 35, 3) := by decide +kernel
theorem dX9_changes_23 : decode cX9_changes 23 = .ok (.iload_n 2, 1) := by decide +kernel
theorem dX9_changes_24 : decode cX9_changes 24 = .ok (.iload_n 3, 1) := by decide +kernel
theorem dX9_changes_25 : decode cX9_changes 25 = .ok (.iastore, 1) := by decide +kernel
theorem dX9_changes_26 : decode cX9_changes 26 = .ok (.return_, 1) := by decide +kernel
theorem dX9_wrong_0 : decode cX9_wrong 0 = .ok (.aload_n 0, 1) := by decide +kernel
theorem dX9_wrong_1 : decode cX9_wrong 1 = .ok (.iload_n 1, 1) := by decide +kernel
theorem dX9_wrong_2 : decode cX9_wrong 2 = .ok (.putfield 150, 3) := by decide +kernel
theorem dX9_wrong_5 : decode cX9_wrong 5 = .ok (.iconst 0, 1) := by decide +kernel
theorem dX9_wrong_6 : decode cX9_wrong 6 = .ok (.ireturn, 1) := by decide +kernel
theorem dX9_isWordAt_0 : decode cX9_isWordAt 0 = .ok (.iconst 0, 1) := by decide +kernel
theorem dX9_isWordAt_1 : decode cX9_isWordAt 1 = .ok (.istore_n 2, 1) := by decide +kernel
theorem dX9_isWordAt_2 : decode cX9_isWordAt 2 = .ok (.iconst 0, 1) := by decide +kernel
theorem dX9_isWordAt_3 : decode cX9_isWordAt 3 = .ok (.istore_n 3, 1) := by decide +kernel
theorem dX9_isWordAt_4 : decode cX9_isWordAt 4 = .ok (.iload_n 3, 1) := by decide +kernel
theorem dX9_isWordAt_5 : decode cX9_isWordAt 5 = .ok (.iload_n 1, 1) := by decide +kernel
theorem dX9_isWordAt_6 : decode cX9_isWordAt 6 = .ok (.if_icmp .ge 26, 3) := by decide +kernel
theorem dX9_isWordAt_9 : decode cX9_isWordAt 9 = .ok (.iload_n 3, 1) := by decide +kernel
theorem dX9_isWordAt_10 : decode cX9_isWordAt 10 = .ok (.aload_n 0, 1) := by decide +kernel
theorem dX9_isWordAt_11 : decode cX9_isWordAt 11 = .ok (.getfield 63, 3) := by decide +kernel
theorem dX9_isWordAt_14 : decode cX9_isWordAt 14 = .ok (.iload_n 2, 1) := by decide +kernel
theorem dX9_isWordAt_15 : decode cX9_isWordAt 15 = .ok (.iaload, 1) := by decide +kernel
theorem dX9_isWordAt_16 : decode cX9_isWordAt 16 = .ok (.ifCond .ne 7, 3) := by decide +kernel
theorem dX9_isWordAt_19 : decode cX9_isWordAt 19 = .ok (.iconst 1, 1) := by decide +kernel
theorem dX9_isWordAt_20 : decode cX9_isWordAt 20 = .ok (.goto 4, 3) := by decide +kernel
theorem dX9_isWordAt_23 : decode cX9_isWordAt 23 = .ok (.iconst 0, 1) := by decide +kernel
theorem dX9_isWordAt_24 : decode cX9_isWordAt 24 = .ok (.iadd, 1) := by decide +kernel
theorem dX9_isWordAt_25 : decode cX9_isWordAt 25 = .ok (.istore_n 3, 1) := by decide +kernel
theorem dX9_isWordAt_26 : decode cX9_isWordAt 26 = .ok (.iinc 2 1, 3) := by decide +kernel
theorem dX9_isWordAt_29 : decode cX9_isWordAt 29 = .ok (.goto (-25), 3) := by decide +kernel
theorem dX9_isWordAt_32 : decode cX9_isWordAt 32 = .ok (.aload_n 0, 1) := by decide +kernel
theorem dX9_isWordAt_33 : decode cX9_isWordAt 33 = .ok (.getfield 153, 3) := by decide +kernel
theorem dX9_isWordAt_36 : decode cX9_isWordAt 36 = .ok (.istore_n 3, 1) := by decide +kernel
theorem dX9_isWordAt_37 : decode cX9_isWordAt 37 = .ok (.aload_n 0, 1) := by decide +kernel
theorem dX9_isWordAt_38 : decode cX9_isWordAt 38 = .ok (.getfield 63, 3) := by decide +kernel
theorem dX9_isWordAt_41 : decode cX9_isWordAt 41 = .ok (.iload_n 2, 1) := by decide +kernel
theorem dX9_isWordAt_42 : decode cX9_isWordAt 42 = .ok (.iaload, 1) := by decide +kernel
theorem dX9_isWordAt_43 : decode cX9_isWordAt 43 = .ok (.bipush 32, 2) := by decide +kernel
theorem dX9_isWordAt_45 : decode cX9_isWordAt 45 = .ok (.if_icmp .le 41, 3) := by decide +kernel
theorem dX9_isWordAt_48 : decode cX9_isWordAt 48 = .ok (.iload_n 3, 1) := by decide +kernel
theorem dX9_isWordAt_49 : decode cX9_isWordAt 49 = .ok (.aload_n 0, 1) := by decide +kernel
theorem dX9_isWordAt_50 : decode cX9_isWordAt 50 = .ok (.getfield 156, 3) := by decide +kernel
theorem dX9_isWordAt_53 : decode cX9_isWordAt 53 = .ok (.if_icmp .ge 33, 3) := by decide +kernel
theorem dX9_isWordAt_56 : decode cX9_isWordAt 56 = .ok (.aload_n 0, 1) := by decide +kernel
theorem dX9_isWordAt_57 : decode cX9_isWordAt 57 = .ok (.getfield 56, 3) := by decide +kernel
theorem dX9_isWordAt_60 : decode cX9_isWordAt 60 = .ok (.aload_n 0, 1) := by decide +kernel
theorem dX9_isWordAt_61 : decode cX9_isWordAt 61 = .ok (.getfield 159, 3) := by decide +kernel
theorem dX9_isWordAt_64 : decode cX9_isWordAt 64 = .ok (.iload_n 3, 1) := by decide +kernel
theorem dX9_isWordAt_65 : decode cX9_isWordAt 65 = .ok (.iadd, 1) := by decide +kernel
theorem dX9_isWordAt_66 : decode cX9_isWordAt 66 = .ok (.laload, 1) := by decide +kernel
theorem dX9_isWordAt_67 : decode cX9_isWordAt 67 = .ok (.l2i, 1) := by decide +kernel
theorem dX9_isWordAt_68 : decode cX9_isWordAt 68 = .ok (.aload_n 0, 1) := by decide +kernel
theorem dX9_isWordAt_69 : decode cX9_isWordAt 69 = .ok (.getfield 63, 3) := by decide +kernel
theorem dX9_isWordAt_72 : decode cX9_isWordAt 72 = .ok (.iload_n 2, 1) := by decide +kernel
theorem dX9_isWordAt_73 : decode cX9_isWordAt 73 = .ok (.iaload, 1) := by decide +kernel
theorem dX9_isWordAt_74 : decode cX9_isWordAt 74 = .ok (.if_icmp .ne 12, 3) := by decide +kernel
theorem dX9_isWordAt_77 : decode cX9_isWordAt 77 = .ok (.iinc 3 1, 3) := by decide +kernel
theorem dX9_isWordAt_80 : decode cX9_isWordAt 80 = .ok (.iinc 2 1, 3) := by decide +kernel
theorem dX9_isWordAt_83 : decode cX9_isWordAt 83 = .ok (.goto (-46), 3) := by decide +kernel
theorem dX9_isWordAt_86 : decode cX9_isWordAt 86 = .ok (.aload_n 0, 1) := by decide +kernel
theorem dX9_isWordAt_87 : decode cX9_isWordAt 87 = .ok (.getfield 63, 3) := by decide +kernel
theorem dX9_isWordAt_90 : decode cX9_isWordAt 90 = .ok (.iload_n 2, 1) := by decide +kernel
theorem dX9_isWordAt_91 : decode cX9_isWordAt 91 = .ok (.iaload, 1) := by decide +kernel
theorem dX9_isWordAt_92 : decode cX9_isWordAt 92 = .ok (.bipush 32, 2) := by decide +kernel
theorem dX9_isWordAt_94 : decode cX9_isWordAt 94 = .ok (.if_icmp .gt 7, 3) := by decide +kernel
theorem dX9_isWordAt_97 : decode cX9_isWordAt 97 = .ok (.iconst 1, 1) := by decide +kernel
theorem dX9_isWordAt_98 : decode cX9_isWordAt 98 = .ok (.goto 4, 3) := by decide +kernel
theorem dX9_isWordAt_101 : decode cX9_isWordAt 101 = .ok (.iconst 0, 1) := by decide +kernel
theorem dX9_isWordAt_102 : decode cX9_isWordAt 102 = .ok (.ireturn, 1) := by decide +kernel
theorem dX9_word_0 : decode cX9_word 0 = .ok (.iconst 0, 1) := by decide +kernel
theorem dX9_word_1 : decode cX9_word 1 = .ok (.istore_n 1, 1) := by decide +kernel
theorem dX9_word_2 : decode cX9_word 2 = .ok (.aload_n 0, 1) := by decide +kernel
theorem dX9_word_3 : decode cX9_word 3 = .ok (.getfield 153, 3) := by decide +kernel
theorem dX9_word_6 : decode cX9_word 6 = .ok (.istore_n 2, 1) := by decide +kernel
theorem dX9_word_7 : decode cX9_word 7 = .ok (.iconst 0, 1) := by decide +kernel
theorem dX9_word_8 : decode cX9_word 8 = .ok (.istore_n 3, 1) := by decide +kernel
theorem dX9_word_9 : decode cX9_word 9 = .ok (.iload_n 3, 1) := by decide +kernel
theorem dX9_word_10 : decode cX9_word 10 = .ok (.bipush 7, 2) := by decide +kernel
theorem dX9_word_12 : decode cX9_word 12 = .ok (.if_icmp .ge 118, 3) := by decide +kernel
theorem dX9_word_15 : decode cX9_word 15 = .ok (.aload_n 0, 1) := by decide +kernel
theorem dX9_word_16 : decode cX9_word 16 = .ok (.getfield 153, 3) := by decide +kernel
theorem dX9_word_19 : decode cX9_word 19 = .ok (.istore 4, 2) := by decide +kernel
theorem dX9_word_21 : decode cX9_word 21 = .ok (.iload_n 1, 1) := by decide +kernel
theorem dX9_word_22 : decode cX9_word 22 = .ok (.istore 5, 2) := by decide +kernel
theorem dX9_word_24 : decode cX9_word 24 = .ok (.aload_n 0, 1) := by decide +kernel
theorem dX9_word_25 : decode cX9_word 25 = .ok (.getfield 63, 3) := by decide +kernel
theorem dX9_word_28 : decode cX9_word 28 = .ok (.iload 5, 2) := by decide +kernel
theorem dX9_word_30 : decode cX9_word 30 = .ok (.iaload, 1) := by decide +kernel
theorem dX9_word_31 : decode cX9_word 31 = .ok (.ifCond .eq 44, 3) := by decide +kernel
theorem dX9_word_34 : decode cX9_word 34 = .ok (.iload 4, 2) := by decide +kernel
theorem dX9_word_36 : decode cX9_word 36 = .ok (.aload_n 0, 1) := by decide +kernel
theorem dX9_word_37 : decode cX9_word 37 = .ok (.getfield 156, 3) := by decide +kernel
theorem dX9_word_40 : decode cX9_word 40 = .ok (.if_icmp .ge 35, 3) := by decide +kernel
theorem dX9_word_43 : decode cX9_word 43 = .ok (.aload_n 0, 1) := by decide +kernel
theorem dX9_word_44 : decode cX9_word 44 = .ok (.getfield 56, 3) := by decide +kernel
theorem dX9_word_47 : decode cX9_word 47 = .ok (.aload_n 0, 1) := by decide +kernel
theorem dX9_word_48 : decode cX9_word 48 = .ok (.getfield 159, 3) := by decide +kernel
theorem dX9_word_51 : decode cX9_word 51 = .ok (.iload 4, 2) := by decide +kernel
theorem dX9_word_53 : decode cX9_word 53 = .ok (.iadd, 1) := by decide +kernel
theorem dX9_word_54 : decode cX9_word 54 = .ok (.laload, 1) := by decide +kernel
theorem dX9_word_55 : decode cX9_word 55 = .ok (.l2i, 1) := by decide +kernel
theorem dX9_word_56 : decode cX9_word 56 = .ok (.aload_n 0, 1) := by decide +kernel
theorem dX9_word_57 : decode cX9_word 57 = .ok (.getfield 63, 3) := by decide +kernel
theorem dX9_word_60 : decode cX9_word 60 = .ok (.iload 5, 2) := by decide +kernel
theorem dX9_word_62 : decode cX9_word 62 = .ok (.iaload, 1) := by decide +kernel
theorem dX9_word_63 : decode cX9_word 63 = .ok (.if_icmp .ne 12, 3) := by decide +kernel
theorem dX9_word_66 : decode cX9_word 66 = .ok (.iinc 4 1, 3) := by decide +kernel
theorem dX9_word_69 : decode cX9_word 69 = .ok (.iinc 5 1, 3) := by decide +kernel
theorem dX9_word_72 : decode cX9_word 72 = .ok (.goto (-48), 3) := by decide +kernel
theorem dX9_word_75 : decode cX9_word 75 = .ok (.aload_n 0, 1) := by decide +kernel
theorem dX9_word_76 : decode cX9_word 76 = .ok (.getfield 63, 3) := by decide +kernel
theorem dX9_word_79 : decode cX9_word 79 = .ok (.iload 5, 2) := by decide +kernel
theorem dX9_word_81 : decode cX9_word 81 = .ok (.iaload, 1) := by decide +kernel
theorem dX9_word_82 : decode cX9_word 82 = .ok (.ifCond .ne 11, 3) := by decide +kernel
theorem dX9_word_85 : decode cX9_word 85 = .ok (.aload_n 0, 1) := by decide +kernel
theorem dX9_word_86 : decode cX9_word 86 = .ok (.iload 4, 2) := by decide +kernel
theorem dX9_word_88 : decode cX9_word 88 = .ok (.putfield 153, 3) := by decide +kernel
theorem dX9_word_91 : decode cX9_word 91 = .ok (.iload_n 3, 1) := by decide +kernel
theorem dX9_word_92 : decode cX9_word 92 = .ok (.ireturn, 1) := by decide +kernel
theorem dX9_word_93 : decode cX9_word 93 = .ok (.iload 4, 2) := by decide +kernel
theorem dX9_word_95 : decode cX9_word 95 = .ok (.iload_n 2, 1) := by decide +kernel
theorem dX9_word_96 : decode cX9_word 96 = .ok (.if_icmp .le 8, 3) := by decide +kernel
theorem dX9_word_99 : decode cX9_word 99 = .ok (.iload 4, 2) := by decide +kernel
theorem dX9_word_101 : decode cX9_word 101 = .ok (.goto 4, 3) := by decide +kernel
theorem dX9_word_104 : decode cX9_word 104 = .ok (.iload_n 2, 1) := by decide +kernel
theorem dX9_word_105 : decode cX9_word 105 = .ok (.istore_n 2, 1) := by decide +kernel
theorem dX9_word_106 : decode cX9_word 106 = .ok (.aload_n 0, 1) := by decide +kernel
theorem dX9_word_107 : decode cX9_word 107 = .ok (.getfield 63, 3) := by decide +kernel
theorem dX9_word_110 : decode cX9_word 110 = .ok (.iload_n 1, 1) := by decide +kernel
theorem dX9_word_111 : decode cX9_word 111 = .ok (.iaload, 1) := by decide +kernel
theorem dX9_word_112 : decode cX9_word 112 = .ok (.ifCond .eq 9, 3) := by decide +kernel
theorem dX9_word_115 : decode cX9_word 115 = .ok (.iinc 1 1, 3) := by decide +kernel
theorem dX9_word_118 : decode cX9_word 118 = .ok (.goto (-12), 3) := by decide +kernel
theorem dX9_word_121 : decode cX9_word 121 = .ok (.iinc 1 1, 3) := by decide +kernel
theorem dX9_word_124 : decode cX9_word 124 = .ok (.iinc 3 1, 3) := by decide +kernel
theorem dX9_word_127 : decode cX9_word 127 = .ok (.goto (-118), 3) := by decide +kernel
theorem dX9_word_130 : decode cX9_word 130 = .ok (.aload_n 0, 1) := by decide +kernel
theorem dX9_word_131 : decode cX9_word 131 = .ok (.iload_n 2, 1) := by decide +kernel
theorem dX9_word_132 : decode cX9_word 132 = .ok (.putfield 150, 3) := by decide +kernel
theorem dX9_word_135 : decode cX9_word 135 = .ok (.iconst (-1), 1) := by decide +kernel
theorem dX9_word_136 : decode cX9_word 136 = .ok (.ireturn, 1) := by decide +kernel
theorem dX9_isDigit_0 : decode cX9_isDigit 0 = .ok (.aload_n 0, 1) := by decide +kernel
theorem dX9_isDigit_1 : decode cX9_isDigit 1 = .ok (.getfield 153, 3) := by decide +kernel
theorem dX9_isDigit_4 : decode cX9_isDigit 4 = .ok (.aload_n 0, 1) := by decide +kernel
theorem dX9_isDigit_5 : decode cX9_isDigit 5 = .ok (.getfield 156, 3) := by decide +kernel
theorem dX9_isDigit_8 : decode cX9_isDigit 8 = .ok (.if_icmp .ge 47, 3) := by decide +kernel
theorem dX9_isDigit_11 : decode cX9_isDigit 11 = .ok (.aload_n 0, 1) := by decide +kernel
theorem dX9_isDigit_12 : decode cX9_isDigit 12 = .ok (.getfield 56, 3) := by decide +kernel
theorem dX9_isDigit_15 : decode cX9_isDigit 15 = .ok (.aload_n 0, 1) := by decide +kernel
theorem dX9_isDigit_16 : decode cX9_isDigit 16 = .ok (.getfield 159, 3) := by decide +kernel
theorem dX9_isDigit_19 : decode cX9_isDigit 19 = .ok (.aload_n 0, 1) := by decide +kernel
theorem dX9_isDigit_20 : decode cX9_isDigit 20 = .ok (.getfield 153, 3) := by decide +kernel
theorem dX9_isDigit_23 : decode cX9_isDigit 23 = .ok (.iadd, 1) := by decide +kernel
theorem dX9_isDigit_24 : decode cX9_isDigit 24 = .ok (.laload, 1) := by decide +kernel
theorem dX9_isDigit_25 : decode cX9_isDigit 25 = .ok (.l2i, 1) := by decide +kernel
theorem dX9_isDigit_26 : decode cX9_isDigit 26 = .ok (.bipush 48, 2) := by decide +kernel
theorem dX9_isDigit_28 : decode cX9_isDigit 28 = .ok (.if_icmp .lt 27, 3) := by decide +kernel
theorem dX9_isDigit_31 : decode cX9_isDigit 31 = .ok (.aload_n 0, 1) := by decide +kernel
theorem dX9_isDigit_32 : decode cX9_isDigit 32 = .ok (.getfield 56, 3) := by decide +kernel
theorem dX9_isDigit_35 : decode cX9_isDigit 35 = .ok (.aload_n 0, 1) := by decide +kernel
theorem dX9_isDigit_36 : decode cX9_isDigit 36 = .ok (.getfield 159, 3) := by decide +kernel
theorem dX9_isDigit_39 : decode cX9_isDigit 39 = .ok (.aload_n 0, 1) := by decide +kernel
theorem dX9_isDigit_40 : decode cX9_isDigit 40 = .ok (.getfield 153, 3) := by decide +kernel
theorem dX9_isDigit_43 : decode cX9_isDigit 43 = .ok (.iadd, 1) := by decide +kernel
theorem dX9_isDigit_44 : decode cX9_isDigit 44 = .ok (.laload, 1) := by decide +kernel
theorem dX9_isDigit_45 : decode cX9_isDigit 45 = .ok (.l2i, 1) := by decide +kernel
theorem dX9_isDigit_46 : decode cX9_isDigit 46 = .ok (.bipush 57, 2) := by decide +kernel
theorem dX9_isDigit_48 : decode cX9_isDigit 48 = .ok (.if_icmp .gt 7, 3) := by decide +kernel
theorem dX9_isDigit_51 : decode cX9_isDigit 51 = .ok (.iconst 1, 1) := by decide +kernel
theorem dX9_isDigit_52 : decode cX9_isDigit 52 = .ok (.goto 4, 3) := by decide +kernel
theorem dX9_isDigit_55 : decode cX9_isDigit 55 = .ok (.iconst 0, 1) := by decide +kernel
theorem dX9_isDigit_56 : decode cX9_isDigit 56 = .ok (.ireturn, 1) := by decide +kernel
theorem dX9_reads_0 : decode cX9_reads 0 = .ok (.aload_n 0, 1) := by decide +kernel
theorem dX9_reads_1 : decode cX9_reads 1 = .ok (.iconst 0, 1) := by decide +kernel
theorem dX9_reads_2 : decode cX9_reads 2 = .ok (.putfield 162, 3) := by decide +kernel
theorem dX9_reads_5 : decode cX9_reads 5 = .ok (.aload_n 0, 1) := by decide +kernel
theorem dX9_reads_6 : decode cX9_reads 6 = .ok (.invokevirtual 165, 3) := by decide +kernel
theorem dX9_reads_9 : decode cX9_reads 9 = .ok (.ifCond .ne 12, 3) := by decide +kernel
theorem dX9_reads_12 : decode cX9_reads 12 = .ok (.aload_n 0, 1) := by decide +kernel
theorem dX9_reads_13 : decode cX9_reads 13 = .ok (.aload_n 0, 1) := by decide +kernel
theorem dX9_reads_14 : decode cX9_reads 14 = .ok (.getfield 153, 3) := by decide +kernel
theorem dX9_reads_17 : decode cX9_reads 17 = .ok (.invokevirtual 169, 3) := by decide +kernel
theorem dX9_reads_20 : decode cX9_reads 20 = .ok (.ireturn, 1) := by decide +kernel
theorem dX9_reads_21 : decode cX9_reads 21 = .ok (.iconst 0, 1) := by decide +kernel
theorem dX9_reads_22 : decode cX9_reads 22 = .ok (.istore_n 1, 1) := by decide +kernel
theorem dX9_reads_23 : decode cX9_reads 23 = .ok (.iload_n 1, 1) := by decide +kernel
theorem dX9_reads_24 : decode cX9_reads 24 = .ok (.iconst 3, 1) := by decide +kernel
theorem dX9_reads_25 : decode cX9_reads 25 = .ok (.if_icmp .ge 56, 3) := by decide +kernel
theorem dX9_reads_28 : decode cX9_reads 28 = .ok (.aload_n 0, 1) := by decide +kernel
theorem dX9_reads_29 : decode cX9_reads 29 = .ok (.invokevirtual 165, 3) := by decide +kernel
theorem dX9_reads_32 : decode cX9_reads 32 = .ok (.ifCond .eq 49, 3) := by decide +kernel
theorem dX9_reads_35 : decode cX9_reads 35 = .ok (.aload_n 0, 1) := by decide +kernel
theorem dX9_reads_36 : decode cX9_reads 36 = .ok (.bipush 10, 2) := by decide +kernel
theorem dX9_reads_38 : decode cX9_reads 38 = .ok (.aload_n 0, 1) := by decide +kernel
theorem dX9_reads_39 : decode cX9_reads 39 = .ok (.getfield 162, 3) := by decide +kernel
theorem dX9_reads_42 : decode cX9_reads 42 = .ok (.imul, 1) := by decide +kernel
theorem dX9_reads_43 : decode cX9_reads 43 = .ok (.aload_n 0, 1) := by decide +kernel
theorem dX9_reads_44 : decode cX9_reads 44 = .ok (.getfield 56, 3) := by decide +kernel
theorem dX9_reads_47 : decode cX9_reads 47 = .ok (.aload_n 0, 1) := by decide +kernel
theorem dX9_reads_48 : decode cX9_reads 48 = .ok (.getfield 159, 3) := by decide +kernel
theorem dX9_reads_51 : decode cX9_reads 51 = .ok (.aload_n 0, 1) := by decide +kernel
theorem dX9_reads_52 : decode cX9_reads 52 = .ok (.getfield 153, 3) := by decide +kernel
theorem dX9_reads_55 : decode cX9_reads 55 = .ok (.iadd, 1) := by decide +kernel
theorem dX9_reads_56 : decode cX9_reads 56 = .ok (.laload, 1) := by decide +kernel
theorem dX9_reads_57 : decode cX9_reads 57 = .ok (.l2i, 1) := by decide +kernel
theorem dX9_reads_58 : decode cX9_reads 58 = .ok (.iadd, 1) := by decide +kernel
theorem dX9_reads_59 : decode cX9_reads 59 = .ok (.bipush 48, 2) := by decide +kernel
theorem dX9_reads_61 : decode cX9_reads 61 = .ok (.isub, 1) := by decide +kernel
theorem dX9_reads_62 : decode cX9_reads 62 = .ok (.putfield 162, 3) := by decide +kernel
theorem dX9_reads_65 : decode cX9_reads 65 = .ok (.aload_n 0, 1) := by decide +kernel
theorem dX9_reads_66 : decode cX9_reads 66 = .ok (.dup, 1) := by decide +kernel
theorem dX9_reads_67 : decode cX9_reads 67 = .ok (.getfield 153, 3) := by decide +kernel
theorem dX9_reads_70 : decode cX9_reads 70 = .ok (.iconst 1, 1) := by decide +kernel
theorem dX9_reads_71 : decode cX9_reads 71 = .ok (.iadd, 1) := by decide +kernel
theorem dX9_reads_72 : decode cX9_reads 72 = .ok (.putfield 153, 3) := by decide +kernel
theorem dX9_reads_75 : decode cX9_reads 75 = .ok (.iinc 1 1, 3) := by decide +kernel
theorem dX9_reads_78 : decode cX9_reads 78 = .ok (.goto (-55), 3) := by decide +kernel
theorem dX9_reads_81 : decode cX9_reads 81 = .ok (.iconst 1, 1) := by decide +kernel
theorem dX9_reads_82 : decode cX9_reads 82 = .ok (.ireturn, 1) := by decide +kernel
theorem dX9_isSo_0 : decode cX9_isSo 0 = .ok (.iload_n 1, 1) := by decide +kernel
theorem dX9_isSo_1 : decode cX9_isSo 1 = .ok (.lookupswitch 184 #[(0, 35), (5, 101), (6, 150)], 35) := by decide +kernel
theorem dX9_isSo_36 : decode cX9_isSo 36 = .ok (.iload_n 2, 1) := by decide +kernel
theorem dX9_isSo_37 : decode cX9_isSo 37 = .ok (.ifCond .ne 20, 3) := by decide +kernel
theorem dX9_isSo_40 : decode cX9_isSo 40 = .ok (.aload_n 0, 1) := by decide +kernel
theorem dX9_isSo_41 : decode cX9_isSo 41 = .ok (.getfield 162, 3) := by decide +kernel
theorem dX9_isSo_44 : decode cX9_isSo 44 = .ok (.bipush 6, 2) := by decide +kernel
theorem dX9_isSo_46 : decode cX9_isSo 46 = .ok (.if_icmp .gt 7, 3) := by decide +kernel
theorem dX9_isSo_49 : decode cX9_isSo 49 = .ok (.iconst 1, 1) := by decide +kernel
theorem dX9_isSo_50 : decode cX9_isSo 50 = .ok (.goto 51, 3) := by decide +kernel
theorem dX9_isSo_53 : decode cX9_isSo 53 = .ok (.iconst 0, 1) := by decide +kernel
theorem dX9_isSo_54 : decode cX9_isSo 54 = .ok (.goto 47, 3) := by decide +kernel
theorem dX9_isSo_57 : decode cX9_isSo 57 = .ok (.iload_n 2, 1) := by decide +kernel
theorem dX9_isSo_58 : decode cX9_isSo 58 = .ok (.iconst 1, 1) := by decide +kernel
theorem dX9_isSo_59 : decode cX9_isSo 59 = .ok (.if_icmp .ne 20, 3) := by decide +kernel
theorem dX9_isSo_62 : decode cX9_isSo 62 = .ok (.aload_n 0, 1) := by decide +kernel
theorem dX9_isSo_63 : decode cX9_isSo 63 = .ok (.getfield 162, 3) := by decide +kernel
theorem dX9_isSo_66 : decode cX9_isSo 66 = .ok (.bipush 9, 2) := by decide +kernel
theorem dX9_isSo_68 : decode cX9_isSo 68 = .ok (.if_icmp .gt 7, 3) := by decide +kernel
theorem dX9_isSo_71 : decode cX9_isSo 71 = .ok (.iconst 1, 1) := by decide +kernel
theorem dX9_isSo_72 : decode cX9_isSo 72 = .ok (.goto 29, 3) := by decide +kernel
theorem dX9_isSo_75 : decode cX9_isSo 75 = .ok (.iconst 0, 1) := by decide +kernel
theorem dX9_isSo_76 : decode cX9_isSo 76 = .ok (.goto 25, 3) := by decide +kernel
theorem dX9_isSo_79 : decode cX9_isSo 79 = .ok (.aload_n 0, 1) := by decide +kernel
theorem dX9_isSo_80 : decode cX9_isSo 80 = .ok (.getfield 162, 3) := by decide +kernel
theorem dX9_isSo_83 : decode cX9_isSo 83 = .ok (.iconst 1, 1) := by decide +kernel
theorem dX9_isSo_84 : decode cX9_isSo 84 = .ok (.if_icmp .lt 16, 3) := by decide +kernel
theorem dX9_isSo_87 : decode cX9_isSo 87 = .ok (.aload_n 0, 1) := by decide +kernel
theorem dX9_isSo_88 : decode cX9_isSo 88 = .ok (.getfield 162, 3) := by decide +kernel
theorem dX9_isSo_91 : decode cX9_isSo 91 = .ok (.bipush 9, 2) := by decide +kernel
theorem dX9_isSo_93 : decode cX9_isSo 93 = .ok (.if_icmp .gt 7, 3) := by decide +kernel
theorem dX9_isSo_96 : decode cX9_isSo 96 = .ok (.iconst 1, 1) := by decide +kernel
theorem dX9_isSo_97 : decode cX9_isSo 97 = .ok (.goto 4, 3) := by decide +kernel
theorem dX9_isSo_100 : decode cX9_isSo 100 = .ok (.iconst 0, 1) := by decide +kernel
theorem dX9_isSo_101 : decode cX9_isSo 101 = .ok (.ireturn, 1) := by decide +kernel
theorem dX9_isSo_102 : decode cX9_isSo 102 = .ok (.iload_n 2, 1) := by decide +kernel
theorem dX9_isSo_103 : decode cX9_isSo 103 = .ok (.ifCond .ne 14, 3) := by decide +kernel
theorem dX9_isSo_106 : decode cX9_isSo 106 = .ok (.aload_n 0, 1) := by decide +kernel
theorem dX9_isSo_107 : decode cX9_isSo 107 = .ok (.aload_n 0, 1) := by decide +kernel
theorem dX9_isSo_108 : decode cX9_isSo 108 = .ok (.getfield 162, 3) := by decide +kernel
theorem dX9_isSo_111 : decode cX9_isSo 111 = .ok (.invokevirtual 172, 3) := by decide +kernel
theorem dX9_isSo_114 : decode cX9_isSo 114 = .ok (.goto 36, 3) := by decide +kernel
theorem dX9_isSo_117 : decode cX9_isSo 117 = .ok (.aload_n 0, 1) := by decide +kernel
theorem dX9_isSo_118 : decode cX9_isSo 118 = .ok (.aload_n 0, 1) := by decide +kernel
theorem dX9_isSo_119 : decode cX9_isSo 119 = .ok (.getfield 162, 3) := by decide +kernel
theorem dX9_isSo_122 : decode cX9_isSo 122 = .ok (.invokevirtual 175, 3) := by decide +kernel
theorem dX9_isSo_125 : decode cX9_isSo 125 = .ok (.ifCond .eq 24, 3) := by decide +kernel
theorem dX9_isSo_128 : decode cX9_isSo 128 = .ok (.aload_n 0, 1) := by decide +kernel
theorem dX9_isSo_129 : decode cX9_isSo 129 = .ok (.aload_n 0, 1) := by decide +kernel
theorem dX9_isSo_130 : decode cX9_isSo 130 = .ok (.getfield 69, 3) := by decide +kernel
theorem dX9_isSo_133 : decode cX9_isSo 133 = .ok (.iconst 0, 1) := by decide +kernel
theorem dX9_isSo_134 : decode cX9_isSo 134 = .ok (.iaload, 1) := by decide +kernel
theorem dX9_isSo_135 : decode cX9_isSo 135 = .ok (.aload_n 0, 1) := by decide +kernel
theorem dX9_isSo_136 : decode cX9_isSo 136 = .ok (.getfield 162, 3) := by decide +kernel
theorem dX9_isSo_139 : decode cX9_isSo 139 = .ok (.invokevirtual 178, 3) := by decide +kernel
theorem dX9_isSo_142 : decode cX9_isSo 142 = .ok (.ifCond .eq 7, 3) := by decide +kernel
theorem dX9_isSo_145 : decode cX9_isSo 145 = .ok (.iconst 1, 1) := by decide +kernel
theorem dX9_isSo_146 : decode cX9_isSo 146 = .ok (.goto 4, 3) := by decide +kernel
theorem dX9_isSo_149 : decode cX9_isSo 149 = .ok (.iconst 0, 1) := by decide +kernel
theorem dX9_isSo_150 : decode cX9_isSo 150 = .ok (.ireturn, 1) := by decide +kernel
theorem dX9_isSo_151 : decode cX9_isSo 151 = .ok (.aload_n 0, 1) := by decide +kernel
theorem dX9_isSo_152 : decode cX9_isSo 152 = .ok (.getfield 162, 3) := by decide +kernel
theorem dX9_isSo_155 : decode cX9_isSo 155 = .ok (.aload_n 0, 1) := by decide +kernel
theorem dX9_isSo_156 : decode cX9_isSo 156 = .ok (.getfield 96, 3) := by decide +kernel
theorem dX9_isSo_159 : decode cX9_isSo 159 = .ok (.if_icmp .ge 24, 3) := by decide +kernel
theorem dX9_isSo_162 : decode cX9_isSo 162 = .ok (.iload_n 2, 1) := by decide +kernel
theorem dX9_isSo_163 : decode cX9_isSo 163 = .ok (.ifCond .eq 16, 3) := by decide +kernel
theorem dX9_isSo_166 : decode cX9_isSo 166 = .ok (.aload_n 0, 1) := by decide +kernel
theorem dX9_isSo_167 : decode cX9_isSo 167 = .ok (.getfield 162, 3) := by decide +kernel
theorem dX9_isSo_170 : decode cX9_isSo 170 = .ok (.aload_n 0, 1) := by decide +kernel
theorem dX9_isSo_171 : decode cX9_isSo 171 = .ok (.getfield 69, 3) := by decide +kernel
theorem dX9_isSo_174 : decode cX9_isSo 174 = .ok (.iconst 0, 1) := by decide +kernel
theorem dX9_isSo_175 : decode cX9_isSo 175 = .ok (.iaload, 1) := by decide +kernel
theorem dX9_isSo_176 : decode cX9_isSo 176 = .ok (.if_icmp .eq 7, 3) := by decide +kernel
theorem dX9_isSo_179 : decode cX9_isSo 179 = .ok (.iconst 1, 1) := by decide +kernel
theorem dX9_isSo_180 : decode cX9_isSo 180 = .ok (.goto 4, 3) := by decide +kernel
theorem dX9_isSo_183 : decode cX9_isSo 183 = .ok (.iconst 0, 1) := by decide +kernel
theorem dX9_isSo_184 : decode cX9_isSo 184 = .ok (.ireturn, 1) := by decide +kernel
theorem dX9_isSo_185 : decode cX9_isSo 185 = .ok (.aload_n 0, 1) := by decide +kernel
theorem dX9_isSo_186 : decode cX9_isSo 186 = .ok (.iload_n 1, 1) := by decide +kernel
theorem dX9_isSo_187 : decode cX9_isSo 187 = .ok (.iconst 1, 1) := by decide +kernel
theorem dX9_isSo_188 : decode cX9_isSo 188 = .ok (.isub, 1) := by decide +kernel
theorem dX9_isSo_189 : decode cX9_isSo 189 = .ok (.aload_n 0, 1) := by decide +kernel
theorem dX9_isSo_190 : decode cX9_isSo 190 = .ok (.getfield 162, 3) := by decide +kernel
theorem dX9_isSo_193 : decode cX9_isSo 193 = .ok (.invokevirtual 142, 3) := by decide +kernel
theorem dX9_isSo_196 : decode cX9_isSo 196 = .ok (.ireturn, 1) := by decide +kernel
theorem dX9_item_0 : decode cX9_item 0 = .ok (.aload_n 0, 1) := by decide +kernel
theorem dX9_item_1 : decode cX9_item 1 = .ok (.iconst 0, 1) := by decide +kernel
theorem dX9_item_2 : decode cX9_item 2 = .ok (.invokevirtual 181, 3) := by decide +kernel
theorem dX9_item_5 : decode cX9_item 5 = .ok (.ifCond .eq 12, 3) := by decide +kernel
theorem dX9_item_8 : decode cX9_item 8 = .ok (.aload_n 0, 1) := by decide +kernel
theorem dX9_item_9 : decode cX9_item 9 = .ok (.getfield 96, 3) := by decide +kernel
theorem dX9_item_12 : decode cX9_item 12 = .ok (.bipush 8, 2) := by decide +kernel
theorem dX9_item_14 : decode cX9_item 14 = .ok (.if_icmp .eq 20, 3) := by decide +kernel
theorem dX9_item_17 : decode cX9_item 17 = .ok (.aload_n 0, 1) := by decide +kernel
theorem dX9_item_18 : decode cX9_item 18 = .ok (.iconst 5, 1) := by decide +kernel
theorem dX9_item_19 : decode cX9_item 19 = .ok (.invokevirtual 181, 3) := by decide +kernel
theorem dX9_item_22 : decode cX9_item 22 = .ok (.ifCond .eq 21, 3) := by decide +kernel
theorem dX9_item_25 : decode cX9_item 25 = .ok (.aload_n 0, 1) := by decide +kernel
theorem dX9_item_26 : decode cX9_item 26 = .ok (.getfield 123, 3) := by decide +kernel
theorem dX9_item_29 : decode cX9_item 29 = .ok (.bipush 16, 2) := by decide +kernel
theorem dX9_item_31 : decode cX9_item 31 = .ok (.if_icmp .ne 12, 3) := by decide +kernel
theorem dX9_item_34 : decode cX9_item 34 = .ok (.aload_n 0, 1) := by decide +kernel
theorem dX9_item_35 : decode cX9_item 35 = .ok (.aload_n 0, 1) := by decide +kernel
theorem dX9_item_36 : decode cX9_item 36 = .ok (.getfield 153, 3) := by decide +kernel
theorem dX9_item_39 : decode cX9_item 39 = .ok (.invokevirtual 169, 3) := by decide +kernel
theorem dX9_item_42 : decode cX9_item 42 = .ok (.ireturn, 1) := by decide +kernel
theorem dX9_item_43 : decode cX9_item 43 = .ok (.aload_n 0, 1) := by decide +kernel
theorem dX9_item_44 : decode cX9_item 44 = .ok (.invokevirtual 184, 3) := by decide +kernel
theorem dX9_item_47 : decode cX9_item 47 = .ok (.istore_n 1, 1) := by decide +kernel
theorem dX9_item_48 : decode cX9_item 48 = .ok (.iload_n 1, 1) := by decide +kernel
theorem dX9_item_49 : decode cX9_item 49 = .ok (.iconst (-1), 1) := by decide +kernel
theorem dX9_item_50 : decode cX9_item 50 = .ok (.if_icmp .ne 5, 3) := by decide +kernel
theorem dX9_item_53 : decode cX9_item 53 = .ok (.iconst 0, 1) := by decide +kernel
theorem dX9_item_54 : decode cX9_item 54 = .ok (.ireturn, 1) := by decide +kernel
theorem dX9_item_55 : decode cX9_item 55 = .ok (.iconst 0, 1) := by decide +kernel
theorem dX9_item_56 : decode cX9_item 56 = .ok (.istore_n 2, 1) := by decide +kernel
theorem dX9_item_57 : decode cX9_item 57 = .ok (.iload_n 2, 1) := by decide +kernel
theorem dX9_item_58 : decode cX9_item 58 = .ok (.aload_n 0, 1) := by decide +kernel
theorem dX9_item_59 : decode cX9_item 59 = .ok (.getfield 66, 3) := by decide +kernel
theorem dX9_item_62 : decode cX9_item 62 = .ok (.iload_n 1, 1) := by decide +kernel
theorem dX9_item_63 : decode cX9_item 63 = .ok (.iaload, 1) := by decide +kernel
theorem dX9_item_64 : decode cX9_item 64 = .ok (.if_icmp .ge 102, 3) := by decide +kernel
theorem dX9_item_67 : decode cX9_item 67 = .ok (.iload_n 2, 1) := by decide +kernel
theorem dX9_item_68 : decode cX9_item 68 = .ok (.ifCond .le 53, 3) := by decide +kernel
theorem dX9_item_71 : decode cX9_item 71 = .ok (.aload_n 0, 1) := by decide +kernel
theorem dX9_item_72 : decode cX9_item 72 = .ok (.getfield 153, 3) := by decide +kernel
theorem dX9_item_75 : decode cX9_item 75 = .ok (.aload_n 0, 1) := by decide +kernel
theorem dX9_item_76 : decode cX9_item 76 = .ok (.getfield 156, 3) := by decide +kernel
theorem dX9_item_79 : decode cX9_item 79 = .ok (.if_icmp .ge 23, 3) := by decide +kernel
theorem dX9_item_82 : decode cX9_item 82 = .ok (.aload_n 0, 1) := by decide +kernel
theorem dX9_item_83 : decode cX9_item 83 = .ok (.getfield 56, 3) := by decide +kernel
theorem dX9_item_86 : decode cX9_item 86 = .ok (.aload_n 0, 1) := by decide +kernel
theorem dX9_item_87 : decode cX9_item 87 = .ok (.getfield 159, 3) := by decide +kernel
theorem dX9_item_90 : decode cX9_item 90 = .ok (.aload_n 0, 1) := by decide +kernel
theorem dX9_item_91 : decode cX9_item 91 = .ok (.getfield 153, 3) := by decide +kernel
theorem dX9_item_94 : decode cX9_item 94 = .ok (.iadd, 1) := by decide +kernel
theorem dX9_item_95 : decode cX9_item 95 = .ok (.laload, 1) := by decide +kernel
theorem dX9_item_96 : decode cX9_item 96 = .ok (.l2i, 1) := by decide +kernel
theorem dX9_item_97 : decode cX9_item 97 = .ok (.bipush 32, 2) := by decide +kernel
theorem dX9_item_99 : decode cX9_item 99 = .ok (.if_icmp .eq 12, 3) := by decide +kernel
theorem dX9_item_102 : decode cX9_item 102 = .ok (.aload_n 0, 1) := by decide +kernel
theorem dX9_item_103 : decode cX9_item 103 = .ok (.aload_n 0, 1) := by decide +kernel
theorem dX9_item_104 : decode cX9_item 104 = .ok (.getfield 153, 3) := by decide +kernel
theorem dX9_item_107 : decode cX9_item 107 = .ok (.invokevirtual 169, 3) := by decide +kernel
theorem dX9_item_110 : decode cX9_item 110 = .ok (.ireturn, 1) := by decide +kernel
theorem dX9_item_111 : decode cX9_item 111 = .ok (.aload_n 0, 1) := by decide +kernel
theorem dX9_item_112 : decode cX9_item 112 = .ok (.dup, 1) := by decide +kernel
theorem dX9_item_113 : decode cX9_item 113 = .ok (.getfield 153, 3) := by decide +kernel
theorem dX9_item_116 : decode cX9_item 116 = .ok (.iconst 1, 1) := by decide +kernel
theorem dX9_item_117 : decode cX9_item 117 = .ok (.iadd, 1) := by decide +kernel
theorem dX9_item_118 : decode cX9_item 118 = .ok (.putfield 153, 3) := by decide +kernel
theorem dX9_item_121 : decode cX9_item 121 = .ok (.aload_n 0, 1) := by decide +kernel
theorem dX9_item_122 : decode cX9_item 122 = .ok (.getfield 153, 3) := by decide +kernel
theorem dX9_item_125 : decode cX9_item 125 = .ok (.istore_n 3, 1) := by decide +kernel
theorem dX9_item_126 : decode cX9_item 126 = .ok (.aload_n 0, 1) := by decide +kernel
theorem dX9_item_127 : decode cX9_item 127 = .ok (.invokevirtual 187, 3) := by decide +kernel
theorem dX9_item_130 : decode cX9_item 130 = .ok (.ifCond .ne 5, 3) := by decide +kernel
theorem dX9_item_133 : decode cX9_item 133 = .ok (.iconst 0, 1) := by decide +kernel
theorem dX9_item_134 : decode cX9_item 134 = .ok (.ireturn, 1) := by decide +kernel
theorem dX9_item_135 : decode cX9_item 135 = .ok (.aload_n 0, 1) := by decide +kernel
theorem dX9_item_136 : decode cX9_item 136 = .ok (.iload_n 1, 1) := by decide +kernel
theorem dX9_item_137 : decode cX9_item 137 = .ok (.iload_n 2, 1) := by decide +kernel
theorem dX9_item_138 : decode cX9_item 138 = .ok (.invokevirtual 190, 3) := by decide +kernel
theorem dX9_item_141 : decode cX9_item 141 = .ok (.ifCond .ne 9, 3) := by decide +kernel
theorem dX9_item_144 : decode cX9_item 144 = .ok (.aload_n 0, 1) := by decide +kernel
theorem dX9_item_145 : decode cX9_item 145 = .ok (.iload_n 3, 1) := by decide +kernel
theorem dX9_item_146 : decode cX9_item 146 = .ok (.invokevirtual 169, 3) := by decide +kernel
theorem dX9_item_149 : decode cX9_item 149 = .ok (.ireturn, 1) := by decide +kernel
theorem dX9_item_150 : decode cX9_item 150 = .ok (.aload_n 0, 1) := by decide +kernel
theorem dX9_item_151 : decode cX9_item 151 = .ok (.getfield 69, 3) := by decide +kernel
theorem dX9_item_154 : decode cX9_item 154 = .ok (.iload_n 2, 1) := by decide +kernel
theorem dX9_item_155 : decode cX9_item 155 = .ok (.aload_n 0, 1) := by decide +kernel
theorem dX9_item_156 : decode cX9_item 156 = .ok (.getfield 162, 3) := by decide +kernel
theorem dX9_item_159 : decode cX9_item 159 = .ok (.iastore, 1) := by decide +kernel
theorem dX9_item_160 : decode cX9_item 160 = .ok (.iinc 2 1, 3) := by decide +kernel
theorem dX9_item_163 : decode cX9_item 163 = .ok (.goto (-106), 3) := by decide +kernel
theorem dX9_item_166 : decode cX9_item 166 = .ok (.iload_n 1, 1) := by decide +kernel
theorem dX9_item_167 : decode cX9_item 167 = .ok (.lookupswitch 120 #[(0, 33), (5, 59), (6, 97)], 33) := by decide +kernel
theorem dX9_item_200 : decode cX9_item 200 = .ok (.aload_n 0, 1) := by decide +kernel
theorem dX9_item_201 : decode cX9_item 201 = .ok (.aload_n 0, 1) := by decide +kernel
theorem dX9_item_202 : decode cX9_item 202 = .ok (.getfield 69, 3) := by decide +kernel
theorem dX9_item_205 : decode cX9_item 205 = .ok (.iconst 0, 1) := by decide +kernel
theorem dX9_item_206 : decode cX9_item 206 = .ok (.iaload, 1) := by decide +kernel
theorem dX9_item_207 : decode cX9_item 207 = .ok (.aload_n 0, 1) := by decide +kernel
theorem dX9_item_208 : decode cX9_item 208 = .ok (.getfield 69, 3) := by decide +kernel
theorem dX9_item_211 : decode cX9_item 211 = .ok (.iconst 1, 1) := by decide +kernel
theorem dX9_item_212 : decode cX9_item 212 = .ok (.iaload, 1) := by decide +kernel
theorem dX9_item_213 : decode cX9_item 213 = .ok (.aload_n 0, 1) := by decide +kernel
theorem dX9_item_214 : decode cX9_item 214 = .ok (.getfield 69, 3) := by decide +kernel
theorem dX9_item_217 : decode cX9_item 217 = .ok (.iconst 2, 1) := by decide +kernel
theorem dX9_item_218 : decode cX9_item 218 = .ok (.iaload, 1) := by decide +kernel
theorem dX9_item_219 : decode cX9_item 219 = .ok (.invokevirtual 129, 3) := by decide +kernel
theorem dX9_item_222 : decode cX9_item 222 = .ok (.pop, 1) := by decide +kernel
theorem dX9_item_223 : decode cX9_item 223 = .ok (.goto 78, 3) := by decide +kernel
theorem dX9_item_226 : decode cX9_item 226 = .ok (.aload_n 0, 1) := by decide +kernel
theorem dX9_item_227 : decode cX9_item 227 = .ok (.aload_n 0, 1) := by decide +kernel
theorem dX9_item_228 : decode cX9_item 228 = .ok (.getfield 69, 3) := by decide +kernel
theorem dX9_item_231 : decode cX9_item 231 = .ok (.iconst 0, 1) := by decide +kernel
theorem dX9_item_232 : decode cX9_item 232 = .ok (.iaload, 1) := by decide +kernel
theorem dX9_item_233 : decode cX9_item 233 = .ok (.aload_n 0, 1) := by decide +kernel
theorem dX9_item_234 : decode cX9_item 234 = .ok (.getfield 69, 3) := by decide +kernel
theorem dX9_item_237 : decode cX9_item 237 = .ok (.iconst 1, 1) := by decide +kernel
theorem dX9_item_238 : decode cX9_item 238 = .ok (.iaload, 1) := by decide +kernel
theorem dX9_item_239 : decode cX9_item 239 = .ok (.invokevirtual 193, 3) := by decide +kernel
theorem dX9_item_242 : decode cX9_item 242 = .ok (.ifCond .ne 59, 3) := by decide +kernel
theorem dX9_item_245 : decode cX9_item 245 = .ok (.aload_n 0, 1) := by decide +kernel
theorem dX9_item_246 : decode cX9_item 246 = .ok (.aload_n 0, 1) := by decide +kernel
theorem dX9_item_247 : decode cX9_item 247 = .ok (.getfield 69, 3) := by decide +kernel
theorem dX9_item_250 : decode cX9_item 250 = .ok (.iconst 0, 1) := by decide +kernel
theorem dX9_item_251 : decode cX9_item 251 = .ok (.iaload, 1) := by decide +kernel
theorem dX9_item_252 : decode cX9_item 252 = .ok (.aload_n 0, 1) := by decide +kernel
theorem dX9_item_253 : decode cX9_item 253 = .ok (.getfield 69, 3) := by decide +kernel
theorem dX9_item_256 : decode cX9_item 256 = .ok (.iconst 1, 1) := by decide +kernel
theorem dX9_item_257 : decode cX9_item 257 = .ok (.iaload, 1) := by decide +kernel
theorem dX9_item_258 : decode cX9_item 258 = .ok (.invokevirtual 196, 3) := by decide +kernel
theorem dX9_item_261 : decode cX9_item 261 = .ok (.goto 40, 3) := by decide +kernel
theorem dX9_item_264 : decode cX9_item 264 = .ok (.aload_n 0, 1) := by decide +kernel
theorem dX9_item_265 : decode cX9_item 265 = .ok (.aload_n 0, 1) := by decide +kernel
theorem dX9_item_266 : decode cX9_item 266 = .ok (.getfield 69, 3) := by decide +kernel
theorem dX9_item_269 : decode cX9_item 269 = .ok (.iconst 0, 1) := by decide +kernel
theorem dX9_item_270 : decode cX9_item 270 = .ok (.iaload, 1) := by decide +kernel
theorem dX9_item_271 : decode cX9_item 271 = .ok (.aload_n 0, 1) := by decide +kernel
theorem dX9_item_272 : decode cX9_item 272 = .ok (.getfield 69, 3) := by decide +kernel
theorem dX9_item_275 : decode cX9_item 275 = .ok (.iconst 1, 1) := by decide +kernel
theorem dX9_item_276 : decode cX9_item 276 = .ok (.iaload, 1) := by decide +kernel
theorem dX9_item_277 : decode cX9_item 277 = .ok (.invokevirtual 200, 3) := by decide +kernel
theorem dX9_item_280 : decode cX9_item 280 = .ok (.aload_n 0, 1) := by decide +kernel
theorem dX9_item_281 : decode cX9_item 281 = .ok (.invokevirtual 126, 3) := by decide +kernel
theorem dX9_item_284 : decode cX9_item 284 = .ok (.goto 17, 3) := by decide +kernel
theorem dX9_item_287 : decode cX9_item 287 = .ok (.aload_n 0, 1) := by decide +kernel
theorem dX9_item_288 : decode cX9_item 288 = .ok (.iload_n 1, 1) := by decide +kernel
theorem dX9_item_289 : decode cX9_item 289 = .ok (.iconst 1, 1) := by decide +kernel
theorem dX9_item_290 : decode cX9_item 290 = .ok (.isub, 1) := by decide +kernel
theorem dX9_item_291 : decode cX9_item 291 = .ok (.aload_n 0, 1) := by decide +kernel
theorem dX9_item_292 : decode cX9_item 292 = .ok (.getfield 69, 3) := by decide +kernel
theorem dX9_item_295 : decode cX9_item 295 = .ok (.iconst 0, 1) := by decide +kernel
theorem dX9_item_296 : decode cX9_item 296 = .ok (.iaload, 1) := by decide +kernel
theorem dX9_item_297 : decode cX9_item 297 = .ok (.invokevirtual 146, 3) := by decide +kernel
theorem dX9_item_300 : decode cX9_item 300 = .ok (.pop, 1) := by decide +kernel
theorem dX9_item_301 : decode cX9_item 301 = .ok (.iconst 1, 1) := by decide +kernel
theorem dX9_item_302 : decode cX9_item 302 = .ok (.ireturn, 1) := by decide +kernel
theorem dX9_carries_0 : decode cX9_carries 0 = .ok (.iconst 0, 1) := by decide +kernel
theorem dX9_carries_1 : decode cX9_carries 1 = .ok (.istore 6, 2) := by decide +kernel
theorem dX9_carries_3 : decode cX9_carries 3 = .ok (.iload 6, 2) := by decide +kernel
theorem dX9_carries_5 : decode cX9_carries 5 = .ok (.iload_n 2, 1) := by decide +kernel
theorem dX9_carries_6 : decode cX9_carries 6 = .ok (.if_icmp .ge 39, 3) := by decide +kernel
theorem dX9_carries_9 : decode cX9_carries 9 = .ok (.iload 5, 2) := by decide +kernel
theorem dX9_carries_11 : decode cX9_carries 11 = .ok (.ifCond .eq 17, 3) := by decide +kernel
theorem dX9_carries_14 : decode cX9_carries 14 = .ok (.aload_n 1, 1) := by decide +kernel
theorem dX9_carries_15 : decode cX9_carries 15 = .ok (.iload 6, 2) := by decide +kernel
theorem dX9_carries_17 : decode cX9_carries 17 = .ok (.aload_n 3, 1) := by decide +kernel
theorem dX9_carries_18 : decode cX9_carries 18 = .ok (.iload 4, 2) := by decide +kernel
theorem dX9_carries_20 : decode cX9_carries 20 = .ok (.iload 6, 2) := by decide +kernel
theorem dX9_carries_22 : decode cX9_carries 22 = .ok (.iadd, 1) := by decide +kernel
theorem dX9_carries_23 : decode cX9_carries 23 = .ok (.iaload, 1) := by decide +kernel
theorem dX9_carries_24 : decode cX9_carries 24 = .ok (.iastore, 1) := by decide +kernel
theorem dX9_carries_25 : decode cX9_carries 25 = .ok (.goto 14, 3) := by decide +kernel
theorem dX9_carries_28 : decode cX9_carries 28 = .ok (.aload_n 3, 1) := by decide +kernel
theorem dX9_carries_29 : decode cX9_carries 29 = .ok (.iload 4, 2) := by decide +kernel
theorem dX9_carries_31 : decode cX9_carries 31 = .ok (.iload 6, 2) := by decide +kernel
theorem dX9_carries_33 : decode cX9_carries 33 = .ok (.iadd, 1) := by decide +kernel
theorem dX9_carries_34 : decode cX9_carries 34 = .ok (.aload_n 1, 1) := by decide +kernel
theorem dX9_carries_35 : decode cX9_carries 35 = .ok (.iload 6, 2) := by decide +kernel
theorem dX9_carries_37 : decode cX9_carries 37 = .ok (.iaload, 1) := by decide +kernel
theorem dX9_carries_38 : decode cX9_carries 38 = .ok (.iastore, 1) := by decide +kernel
theorem dX9_carries_39 : decode cX9_carries 39 = .ok (.iinc 6 1, 3) := by decide +kernel
theorem dX9_carries_42 : decode cX9_carries 42 = .ok (.goto (-39), 3) := by decide +kernel
theorem dX9_carries_45 : decode cX9_carries 45 = .ok (.iload 4, 2) := by decide +kernel
theorem dX9_carries_47 : decode cX9_carries 47 = .ok (.iload_n 2, 1) := by decide +kernel
theorem dX9_carries_48 : decode cX9_carries 48 = .ok (.iadd, 1) := by decide +kernel
theorem dX9_carries_49 : decode cX9_carries 49 = .ok (.ireturn, 1) := by decide +kernel
theorem dX9_all_0 : decode cX9_all 0 = .ok (.aload_n 0, 1) := by decide +kernel
theorem dX9_all_1 : decode cX9_all 1 = .ok (.aload_n 0, 1) := by decide +kernel
theorem dX9_all_2 : decode cX9_all 2 = .ok (.getfield 26, 3) := by decide +kernel
theorem dX9_all_5 : decode cX9_all 5 = .ok (.bipush 8, 2) := by decide +kernel
theorem dX9_all_7 : decode cX9_all 7 = .ok (.aload_n 1, 1) := by decide +kernel
theorem dX9_all_8 : decode cX9_all 8 = .ok (.iconst 0, 1) := by decide +kernel
theorem dX9_all_9 : decode cX9_all 9 = .ok (.iload_n 2, 1) := by decide +kernel
theorem dX9_all_10 : decode cX9_all 10 = .ok (.invokevirtual 203, 3) := by decide +kernel
theorem dX9_all_13 : decode cX9_all 13 = .ok (.istore_n 3, 1) := by decide +kernel
theorem dX9_all_14 : decode cX9_all 14 = .ok (.aload_n 0, 1) := by decide +kernel
theorem dX9_all_15 : decode cX9_all 15 = .ok (.aload_n 0, 1) := by decide +kernel
theorem dX9_all_16 : decode cX9_all 16 = .ok (.getfield 29, 3) := by decide +kernel
theorem dX9_all_19 : decode cX9_all 19 = .ok (.bipush 8, 2) := by decide +kernel
theorem dX9_all_21 : decode cX9_all 21 = .ok (.aload_n 1, 1) := by decide +kernel
theorem dX9_all_22 : decode cX9_all 22 = .ok (.iload_n 3, 1) := by decide +kernel
theorem dX9_all_23 : decode cX9_all 23 = .ok (.iload_n 2, 1) := by decide +kernel
theorem dX9_all_24 : decode cX9_all 24 = .ok (.invokevirtual 203, 3) := by decide +kernel
theorem dX9_all_27 : decode cX9_all 27 = .ok (.istore_n 3, 1) := by decide +kernel
theorem dX9_all_28 : decode cX9_all 28 = .ok (.aload_n 0, 1) := by decide +kernel
theorem dX9_all_29 : decode cX9_all 29 = .ok (.aload_n 0, 1) := by decide +kernel
theorem dX9_all_30 : decode cX9_all 30 = .ok (.getfield 32, 3) := by decide +kernel
theorem dX9_all_33 : decode cX9_all 33 = .ok (.bipush 8, 2) := by decide +kernel
theorem dX9_all_35 : decode cX9_all 35 = .ok (.aload_n 1, 1) := by decide +kernel
theorem dX9_all_36 : decode cX9_all 36 = .ok (.iload_n 3, 1) := by decide +kernel
theorem dX9_all_37 : decode cX9_all 37 = .ok (.iload_n 2, 1) := by decide +kernel
theorem dX9_all_38 : decode cX9_all 38 = .ok (.invokevirtual 203, 3) := by decide +kernel
theorem dX9_all_41 : decode cX9_all 41 = .ok (.istore_n 3, 1) := by decide +kernel
theorem dX9_all_42 : decode cX9_all 42 = .ok (.aload_n 0, 1) := by decide +kernel
theorem dX9_all_43 : decode cX9_all 43 = .ok (.aload_n 0, 1) := by decide +kernel
theorem dX9_all_44 : decode cX9_all 44 = .ok (.getfield 35, 3) := by decide +kernel
theorem dX9_all_47 : decode cX9_all 47 = .ok (.bipush 8, 2) := by decide +kernel
theorem dX9_all_49 : decode cX9_all 49 = .ok (.aload_n 1, 1) := by decide +kernel
theorem dX9_all_50 : decode cX9_all 50 = .ok (.iload_n 3, 1) := by decide +kernel
theorem dX9_all_51 : decode cX9_all 51 = .ok (.iload_n 2, 1) := by decide +kernel
theorem dX9_all_52 : decode cX9_all 52 = .ok (.invokevirtual 203, 3) := by decide +kernel
theorem dX9_all_55 : decode cX9_all 55 = .ok (.istore_n 3, 1) := by decide +kernel
theorem dX9_all_56 : decode cX9_all 56 = .ok (.aload_n 0, 1) := by decide +kernel
theorem dX9_all_57 : decode cX9_all 57 = .ok (.aload_n 0, 1) := by decide +kernel
theorem dX9_all_58 : decode cX9_all 58 = .ok (.getfield 38, 3) := by decide +kernel
theorem dX9_all_61 : decode cX9_all 61 = .ok (.bipush 16, 2) := by decide +kernel
theorem dX9_all_63 : decode cX9_all 63 = .ok (.aload_n 1, 1) := by decide +kernel
theorem dX9_all_64 : decode cX9_all 64 = .ok (.iload_n 3, 1) := by decide +kernel
theorem dX9_all_65 : decode cX9_all 65 = .ok (.iload_n 2, 1) := by decide +kernel
theorem dX9_all_66 : decode cX9_all 66 = .ok (.invokevirtual 203, 3) := by decide +kernel
theorem dX9_all_69 : decode cX9_all 69 = .ok (.istore_n 3, 1) := by decide +kernel
theorem dX9_all_70 : decode cX9_all 70 = .ok (.aload_n 0, 1) := by decide +kernel
theorem dX9_all_71 : decode cX9_all 71 = .ok (.aload_n 0, 1) := by decide +kernel
theorem dX9_all_72 : decode cX9_all 72 = .ok (.getfield 41, 3) := by decide +kernel
theorem dX9_all_75 : decode cX9_all 75 = .ok (.bipush 16, 2) := by decide +kernel
theorem dX9_all_77 : decode cX9_all 77 = .ok (.aload_n 1, 1) := by decide +kernel
theorem dX9_all_78 : decode cX9_all 78 = .ok (.iload_n 3, 1) := by decide +kernel
theorem dX9_all_79 : decode cX9_all 79 = .ok (.iload_n 2, 1) := by decide +kernel
theorem dX9_all_80 : decode cX9_all 80 = .ok (.invokevirtual 203, 3) := by decide +kernel
theorem dX9_all_83 : decode cX9_all 83 = .ok (.istore_n 3, 1) := by decide +kernel
theorem dX9_all_84 : decode cX9_all 84 = .ok (.iload_n 2, 1) := by decide +kernel
theorem dX9_all_85 : decode cX9_all 85 = .ok (.ifCond .eq 78, 3) := by decide +kernel
theorem dX9_all_88 : decode cX9_all 88 = .ok (.aload_n 0, 1) := by decide +kernel
theorem dX9_all_89 : decode cX9_all 89 = .ok (.aload_n 1, 1) := by decide +kernel
theorem dX9_all_90 : decode cX9_all 90 = .ok (.iload_n 3, 1) := by decide +kernel
theorem dX9_all_91 : decode cX9_all 91 = .ok (.iaload, 1) := by decide +kernel
theorem dX9_all_92 : decode cX9_all 92 = .ok (.putfield 96, 3) := by decide +kernel
theorem dX9_all_95 : decode cX9_all 95 = .ok (.aload_n 0, 1) := by decide +kernel
theorem dX9_all_96 : decode cX9_all 96 = .ok (.aload_n 1, 1) := by decide +kernel
theorem dX9_all_97 : decode cX9_all 97 = .ok (.iload_n 3, 1) := by decide +kernel
theorem dX9_all_98 : decode cX9_all 98 = .ok (.iconst 1, 1) := by decide +kernel
theorem dX9_all_99 : decode cX9_all 99 = .ok (.iadd, 1) := by decide +kernel
theorem dX9_all_100 : decode cX9_all 100 = .ok (.iaload, 1) := by decide +kernel
theorem dX9_all_101 : decode cX9_all 101 = .ok (.putfield 7, 3) := by decide +kernel
theorem dX9_all_104 : decode cX9_all 104 = .ok (.aload_n 0, 1) := by decide +kernel
theorem dX9_all_105 : decode cX9_all 105 = .ok (.aload_n 1, 1) := by decide +kernel
theorem dX9_all_106 : decode cX9_all 106 = .ok (.iload_n 3, 1) := by decide +kernel
theorem dX9_all_107 : decode cX9_all 107 = .ok (.iconst 2, 1) := by decide +kernel
theorem dX9_all_108 : decode cX9_all 108 = .ok (.iadd, 1) := by decide +kernel
theorem dX9_all_109 : decode cX9_all 109 = .ok (.iaload, 1) := by decide +kernel
theorem dX9_all_110 : decode cX9_all 110 = .ok (.putfield 13, 3) := by decide +kernel
theorem dX9_all_113 : decode cX9_all 113 = .ok (.aload_n 0, 1) := by decide +kernel
theorem dX9_all_114 : decode cX9_all 114 = .ok (.aload_n 1, 1) := by decide +kernel
theorem dX9_all_115 : decode cX9_all 115 = .ok (.iload_n 3, 1) := by decide +kernel
theorem dX9_all_116 : decode cX9_all 116 = .ok (.iconst 3, 1) := by decide +kernel
theorem dX9_all_117 : decode cX9_all 117 = .ok (.iadd, 1) := by decide +kernel
theorem dX9_all_118 : decode cX9_all 118 = .ok (.iaload, 1) := by decide +kernel
theorem dX9_all_119 : decode cX9_all 119 = .ok (.putfield 136, 3) := by decide +kernel
theorem dX9_all_122 : decode cX9_all 122 = .ok (.aload_n 0, 1) := by decide +kernel
theorem dX9_all_123 : decode cX9_all 123 = .ok (.aload_n 1, 1) := by decide +kernel
theorem dX9_all_124 : decode cX9_all 124 = .ok (.iload_n 3, 1) := by decide +kernel
theorem dX9_all_125 : decode cX9_all 125 = .ok (.iconst 4, 1) := by decide +kernel
theorem dX9_all_126 : decode cX9_all 126 = .ok (.iadd, 1) := by decide +kernel
theorem dX9_all_127 : decode cX9_all 127 = .ok (.iaload, 1) := by decide +kernel
theorem dX9_all_128 : decode cX9_all 128 = .ok (.putfield 139, 3) := by decide +kernel
theorem dX9_all_131 : decode cX9_all 131 = .ok (.aload_n 0, 1) := by decide +kernel
theorem dX9_all_132 : decode cX9_all 132 = .ok (.aload_n 1, 1) := by decide +kernel
theorem dX9_all_133 : decode cX9_all 133 = .ok (.iload_n 3, 1) := by decide +kernel
theorem dX9_all_134 : decode cX9_all 134 = .ok (.iconst 5, 1) := by decide +kernel
theorem dX9_all_135 : decode cX9_all 135 = .ok (.iadd, 1) := by decide +kernel
theorem dX9_all_136 : decode cX9_all 136 = .ok (.iaload, 1) := by decide +kernel
theorem dX9_all_137 : decode cX9_all 137 = .ok (.putfield 123, 3) := by decide +kernel
theorem dX9_all_140 : decode cX9_all 140 = .ok (.aload_n 0, 1) := by decide +kernel
theorem dX9_all_141 : decode cX9_all 141 = .ok (.aload_n 1, 1) := by decide +kernel
theorem dX9_all_142 : decode cX9_all 142 = .ok (.iload_n 3, 1) := by decide +kernel
theorem dX9_all_143 : decode cX9_all 143 = .ok (.bipush 6, 2) := by decide +kernel
theorem dX9_all_145 : decode cX9_all 145 = .ok (.iadd, 1) := by decide +kernel
theorem dX9_all_146 : decode cX9_all 146 = .ok (.iaload, 1) := by decide +kernel
theorem dX9_all_147 : decode cX9_all 147 = .ok (.putfield 120, 3) := by decide +kernel
theorem dX9_all_150 : decode cX9_all 150 = .ok (.aload_n 0, 1) := by decide +kernel
theorem dX9_all_151 : decode cX9_all 151 = .ok (.aload_n 1, 1) := by decide +kernel
theorem dX9_all_152 : decode cX9_all 152 = .ok (.iload_n 3, 1) := by decide +kernel
theorem dX9_all_153 : decode cX9_all 153 = .ok (.bipush 7, 2) := by decide +kernel
theorem dX9_all_155 : decode cX9_all 155 = .ok (.iadd, 1) := by decide +kernel
theorem dX9_all_156 : decode cX9_all 156 = .ok (.iaload, 1) := by decide +kernel
theorem dX9_all_157 : decode cX9_all 157 = .ok (.putfield 16, 3) := by decide +kernel
theorem dX9_all_160 : decode cX9_all 160 = .ok (.goto 75, 3) := by decide +kernel
theorem dX9_all_163 : decode cX9_all 163 = .ok (.aload_n 1, 1) := by decide +kernel
theorem dX9_all_164 : decode cX9_all 164 = .ok (.iload_n 3, 1) := by decide +kernel
theorem dX9_all_165 : decode cX9_all 165 = .ok (.aload_n 0, 1) := by decide +kernel
theorem dX9_all_166 : decode cX9_all 166 = .ok (.getfield 96, 3) := by decide +kernel
theorem dX9_all_169 : decode cX9_all 169 = .ok (.iastore, 1) := by decide +kernel
theorem dX9_all_170 : decode cX9_all 170 = .ok (.aload_n 1, 1) := by decide +kernel
theorem dX9_all_171 : decode cX9_all 171 = .ok (.iload_n 3, 1) := by decide +kernel
theorem dX9_all_172 : decode cX9_all 172 = .ok (.iconst 1, 1) := by decide +kernel
theorem dX9_all_173 : decode cX9_all 173 = .ok (.iadd, 1) := by decide +kernel
theorem dX9_all_174 : decode cX9_all 174 = .ok (.aload_n 0, 1) := by decide +kernel
theorem dX9_all_175 : decode cX9_all 175 = .ok (.getfield 7, 3) := by decide +kernel
theorem dX9_all_178 : decode cX9_all 178 = .ok (.iastore, 1) := by decide +kernel
theorem dX9_all_179 : decode cX9_all 179 = .ok (.aload_n 1, 1) := by decide +kernel
theorem dX9_all_180 : decode cX9_all 180 = .ok (.iload_n 3, 1) := by decide +kernel
theorem dX9_all_181 : decode cX9_all 181 = .ok (.iconst 2, 1) := by decide +kernel
theorem dX9_all_182 : decode cX9_all 182 = .ok (.iadd, 1) := by decide +kernel
theorem dX9_all_183 : decode cX9_all 183 = .ok (.aload_n 0, 1) := by decide +kernel
theorem dX9_all_184 : decode cX9_all 184 = .ok (.getfield 13, 3) := by decide +kernel
theorem dX9_all_187 : decode cX9_all 187 = .ok (.iastore, 1) := by decide +kernel
theorem dX9_all_188 : decode cX9_all 188 = .ok (.aload_n 1, 1) := by decide +kernel
theorem dX9_all_189 : decode cX9_all 189 = .ok (.iload_n 3, 1) := by decide +kernel
theorem dX9_all_190 : decode cX9_all 190 = .ok (.iconst 3, 1) := by decide +kernel
theorem dX9_all_191 : decode cX9_all 191 = .ok (.iadd, 1) := by decide +kernel
theorem dX9_all_192 : decode cX9_all 192 = .ok (.aload_n 0, 1) := by decide +kernel
theorem dX9_all_193 : decode cX9_all 193 = .ok (.getfield 136, 3) := by decide +kernel
theorem dX9_all_196 : decode cX9_all 196 = .ok (.iastore, 1) := by decide +kernel
theorem dX9_all_197 : decode cX9_all 197 = .ok (.aload_n 1, 1) := by decide +kernel
theorem dX9_all_198 : decode cX9_all 198 = .ok (.iload_n 3, 1) := by decide +kernel
theorem dX9_all_199 : decode cX9_all 199 = .ok (.iconst 4, 1) := by decide +kernel
theorem dX9_all_200 : decode cX9_all 200 = .ok (.iadd, 1) := by decide +kernel
theorem dX9_all_201 : decode cX9_all 201 = .ok (.aload_n 0, 1) := by decide +kernel
theorem dX9_all_202 : decode cX9_all 202 = .ok (.getfield 139, 3) := by decide +kernel
theorem dX9_all_205 : decode cX9_all 205 = .ok (.iastore, 1) := by decide +kernel
theorem dX9_all_206 : decode cX9_all 206 = .ok (.aload_n 1, 1) := by decide +kernel
theorem dX9_all_207 : decode cX9_all 207 = .ok (.iload_n 3, 1) := by decide +kernel
theorem dX9_all_208 : decode cX9_all 208 = .ok (.iconst 5, 1) := by decide +kernel
theorem dX9_all_209 : decode cX9_all 209 = .ok (.iadd, 1) := by decide +kernel
theorem dX9_all_210 : decode cX9_all 210 = .ok (.aload_n 0, 1) := by decide +kernel
theorem dX9_all_211 : decode cX9_all 211 = .ok (.getfield 123, 3) := by decide +kernel
theorem dX9_all_214 : decode cX9_all 214 = .ok (.iastore, 1) := by decide +kernel
theorem dX9_all_215 : decode cX9_all 215 = .ok (.aload_n 1, 1) := by decide +kernel
theorem dX9_all_216 : decode cX9_all 216 = .ok (.iload_n 3, 1) := by decide +kernel
theorem dX9_all_217 : decode cX9_all 217 = .ok (.bipush 6, 2) := by decide +kernel
theorem dX9_all_219 : decode cX9_all 219 = .ok (.iadd, 1) := by decide +kernel
theorem dX9_all_220 : decode cX9_all 220 = .ok (.aload_n 0, 1) := by decide +kernel
theorem dX9_all_221 : decode cX9_all 221 = .ok (.getfield 120, 3) := by decide +kernel
theorem dX9_all_224 : decode cX9_all 224 = .ok (.iastore, 1) := by decide +kernel
theorem dX9_all_225 : decode cX9_all 225 = .ok (.aload_n 1, 1) := by decide +kernel
theorem dX9_all_226 : decode cX9_all 226 = .ok (.iload_n 3, 1) := by decide +kernel
theorem dX9_all_227 : decode cX9_all 227 = .ok (.bipush 7, 2) := by decide +kernel
theorem dX9_all_229 : decode cX9_all 229 = .ok (.iadd, 1) := by decide +kernel
theorem dX9_all_230 : decode cX9_all 230 = .ok (.aload_n 0, 1) := by decide +kernel
theorem dX9_all_231 : decode cX9_all 231 = .ok (.getfield 16, 3) := by decide +kernel
theorem dX9_all_234 : decode cX9_all 234 = .ok (.iastore, 1) := by decide +kernel
theorem dX9_all_235 : decode cX9_all 235 = .ok (.return_, 1) := by decide +kernel
theorem dX9_loft_0 : decode cX9_loft 0 = .ok (.aload_n 0, 1) := by decide +kernel
theorem dX9_loft_1 : decode cX9_loft 1 = .ok (.iload_n 1, 1) := by decide +kernel
theorem dX9_loft_2 : decode cX9_loft 2 = .ok (.invokevirtual 117, 3) := by decide +kernel
theorem dX9_loft_5 : decode cX9_loft 5 = .ok (.istore_n 2, 1) := by decide +kernel
theorem dX9_loft_6 : decode cX9_loft 6 = .ok (.iload_n 2, 1) := by decide +kernel
theorem dX9_loft_7 : decode cX9_loft 7 = .ok (.ifCond .eq 9, 3) := by decide +kernel
theorem dX9_loft_10 : decode cX9_loft 10 = .ok (.aload_n 0, 1) := by decide +kernel
theorem dX9_loft_11 : decode cX9_loft 11 = .ok (.iload_n 2, 1) := by decide +kernel
theorem dX9_loft_12 : decode cX9_loft 12 = .ok (.invokevirtual 107, 3) := by decide +kernel
theorem dX9_loft_15 : decode cX9_loft 15 = .ok (.ireturn, 1) := by decide +kernel
theorem dX9_loft_16 : decode cX9_loft 16 = .ok (.aload_n 0, 1) := by decide +kernel
theorem dX9_loft_17 : decode cX9_loft 17 = .ok (.aload_n 0, 1) := by decide +kernel
theorem dX9_loft_18 : decode cX9_loft 18 = .ok (.getfield 72, 3) := by decide +kernel
theorem dX9_loft_21 : decode cX9_loft 21 = .ok (.iconst 0, 1) := by decide +kernel
theorem dX9_loft_22 : decode cX9_loft 22 = .ok (.invokevirtual 207, 3) := by decide +kernel
theorem dX9_loft_25 : decode cX9_loft 25 = .ok (.aload_n 0, 1) := by decide +kernel
theorem dX9_loft_26 : decode cX9_loft 26 = .ok (.sipush 160, 3) := by decide +kernel
theorem dX9_loft_29 : decode cX9_loft 29 = .ok (.iload_n 1, 1) := by decide +kernel
theorem dX9_loft_30 : decode cX9_loft 30 = .ok (.imul, 1) := by decide +kernel
theorem dX9_loft_31 : decode cX9_loft 31 = .ok (.putfield 159, 3) := by decide +kernel
theorem dX9_loft_34 : decode cX9_loft 34 = .ok (.aload_n 0, 1) := by decide +kernel
theorem dX9_loft_35 : decode cX9_loft 35 = .ok (.iconst 0, 1) := by decide +kernel
theorem dX9_loft_36 : decode cX9_loft 36 = .ok (.putfield 153, 3) := by decide +kernel
theorem dX9_loft_39 : decode cX9_loft 39 = .ok (.aload_n 0, 1) := by decide +kernel
theorem dX9_loft_40 : decode cX9_loft 40 = .ok (.aload_n 0, 1) := by decide +kernel
theorem dX9_loft_41 : decode cX9_loft 41 = .ok (.getfield 50, 3) := by decide +kernel
theorem dX9_loft_44 : decode cX9_loft 44 = .ok (.iload_n 1, 1) := by decide +kernel
theorem dX9_loft_45 : decode cX9_loft 45 = .ok (.iaload, 1) := by decide +kernel
theorem dX9_loft_46 : decode cX9_loft 46 = .ok (.putfield 156, 3) := by decide +kernel
theorem dX9_loft_49 : decode cX9_loft 49 = .ok (.aload_n 0, 1) := by decide +kernel
theorem dX9_loft_50 : decode cX9_loft 50 = .ok (.iconst (-1), 1) := by decide +kernel
theorem dX9_loft_51 : decode cX9_loft 51 = .ok (.putfield 19, 3) := by decide +kernel
theorem dX9_loft_54 : decode cX9_loft 54 = .ok (.iconst 1, 1) := by decide +kernel
theorem dX9_loft_55 : decode cX9_loft 55 = .ok (.istore_n 3, 1) := by decide +kernel
theorem dX9_loft_56 : decode cX9_loft 56 = .ok (.aload_n 0, 1) := by decide +kernel
theorem dX9_loft_57 : decode cX9_loft 57 = .ok (.invokevirtual 211, 3) := by decide +kernel
theorem dX9_loft_60 : decode cX9_loft 60 = .ok (.istore 4, 2) := by decide +kernel
theorem dX9_loft_62 : decode cX9_loft 62 = .ok (.iload 4, 2) := by decide +kernel
theorem dX9_loft_64 : decode cX9_loft 64 = .ok (.ifCond .eq 69, 3) := by decide +kernel
theorem dX9_loft_67 : decode cX9_loft 67 = .ok (.aload_n 0, 1) := by decide +kernel
theorem dX9_loft_68 : decode cX9_loft 68 = .ok (.getfield 153, 3) := by decide +kernel
theorem dX9_loft_71 : decode cX9_loft 71 = .ok (.aload_n 0, 1) := by decide +kernel
theorem dX9_loft_72 : decode cX9_loft 72 = .ok (.getfield 156, 3) := by decide +kernel
theorem dX9_loft_75 : decode cX9_loft 75 = .ok (.if_icmp .ge 58, 3) := by decide +kernel
theorem dX9_loft_78 : decode cX9_loft 78 = .ok (.aload_n 0, 1) := by decide +kernel
theorem dX9_loft_79 : decode cX9_loft 79 = .ok (.getfield 56, 3) := by decide +kernel
theorem dX9_loft_82 : decode cX9_loft 82 = .ok (.aload_n 0, 1) := by decide +kernel
theorem dX9_loft_83 : decode cX9_loft 83 = .ok (.getfield 159, 3) := by decide +kernel
theorem dX9_loft_86 : decode cX9_loft 86 = .ok (.aload_n 0, 1) := by decide +kernel
theorem dX9_loft_87 : decode cX9_loft 87 = .ok (.getfield 153, 3) := by decide +kernel
theorem dX9_loft_90 : decode cX9_loft 90 = .ok (.iadd, 1) := by decide +kernel
theorem dX9_loft_91 : decode cX9_loft 91 = .ok (.laload, 1) := by decide +kernel
theorem dX9_loft_92 : decode cX9_loft 92 = .ok (.l2i, 1) := by decide +kernel
theorem dX9_loft_93 : decode cX9_loft 93 = .ok (.bipush 59, 2) := by decide +kernel
theorem dX9_loft_95 : decode cX9_loft 95 = .ok (.if_icmp .eq 16, 3) := by decide +kernel
theorem dX9_loft_98 : decode cX9_loft 98 = .ok (.aload_n 0, 1) := by decide +kernel
theorem dX9_loft_99 : decode cX9_loft 99 = .ok (.aload_n 0, 1) := by decide +kernel
theorem dX9_loft_100 : decode cX9_loft 100 = .ok (.getfield 153, 3) := by decide +kernel
theorem dX9_loft_103 : decode cX9_loft 103 = .ok (.invokevirtual 169, 3) := by decide +kernel
theorem dX9_loft_106 : decode cX9_loft 106 = .ok (.istore 4, 2) := by decide +kernel
theorem dX9_loft_108 : decode cX9_loft 108 = .ok (.goto (-46), 3) := by decide +kernel
theorem dX9_loft_111 : decode cX9_loft 111 = .ok (.aload_n 0, 1) := by decide +kernel
theorem dX9_loft_112 : decode cX9_loft 112 = .ok (.dup, 1) := by decide +kernel
theorem dX9_loft_113 : decode cX9_loft 113 = .ok (.getfield 153, 3) := by decide +kernel
theorem dX9_loft_116 : decode cX9_loft 116 = .ok (.iconst 1, 1) := by decide +kernel
theorem dX9_loft_117 : decode cX9_loft 117 = .ok (.iadd, 1) := by decide +kernel
theorem dX9_loft_118 : decode cX9_loft 118 = .ok (.putfield 153, 3) := by decide +kernel
theorem dX9_loft_121 : decode cX9_loft 121 = .ok (.iinc 3 1, 3) := by decide +kernel
theorem dX9_loft_124 : decode cX9_loft 124 = .ok (.aload_n 0, 1) := by decide +kernel
theorem dX9_loft_125 : decode cX9_loft 125 = .ok (.invokevirtual 211, 3) := by decide +kernel
theorem dX9_loft_128 : decode cX9_loft 128 = .ok (.istore 4, 2) := by decide +kernel
theorem dX9_loft_130 : decode cX9_loft 130 = .ok (.goto (-68), 3) := by decide +kernel
theorem dX9_loft_133 : decode cX9_loft 133 = .ok (.iload 4, 2) := by decide +kernel
theorem dX9_loft_135 : decode cX9_loft 135 = .ok (.ifCond .eq 5, 3) := by decide +kernel
theorem dX9_loft_138 : decode cX9_loft 138 = .ok (.iload_n 3, 1) := by decide +kernel
theorem dX9_loft_139 : decode cX9_loft 139 = .ok (.ireturn, 1) := by decide +kernel
theorem dX9_loft_140 : decode cX9_loft 140 = .ok (.aload_n 0, 1) := by decide +kernel
theorem dX9_loft_141 : decode cX9_loft 141 = .ok (.aload_n 0, 1) := by decide +kernel
theorem dX9_loft_142 : decode cX9_loft 142 = .ok (.getfield 72, 3) := by decide +kernel
theorem dX9_loft_145 : decode cX9_loft 145 = .ok (.iconst 1, 1) := by decide +kernel
theorem dX9_loft_146 : decode cX9_loft 146 = .ok (.invokevirtual 207, 3) := by decide +kernel
theorem dX9_loft_149 : decode cX9_loft 149 = .ok (.aload_n 0, 1) := by decide +kernel
theorem dX9_loft_150 : decode cX9_loft 150 = .ok (.aload_n 0, 1) := by decide +kernel
theorem dX9_loft_151 : decode cX9_loft 151 = .ok (.getfield 150, 3) := by decide +kernel
theorem dX9_loft_154 : decode cX9_loft 154 = .ok (.putfield 19, 3) := by decide +kernel
theorem dX9_loft_157 : decode cX9_loft 157 = .ok (.aload_n 0, 1) := by decide +kernel
theorem dX9_loft_158 : decode cX9_loft 158 = .ok (.bipush (-6), 2) := by decide +kernel
theorem dX9_loft_160 : decode cX9_loft 160 = .ok (.invokevirtual 107, 3) := by decide +kernel
theorem dX9_loft_163 : decode cX9_loft 163 = .ok (.ireturn, 1) := by decide +kernel
theorem dX9_fault_0 : decode cX9_fault 0 = .ok (.aload_n 0, 1) := by decide +kernel
theorem dX9_fault_1 : decode cX9_fault 1 = .ok (.getfield 19, 3) := by decide +kernel
theorem dX9_fault_4 : decode cX9_fault 4 = .ok (.ireturn, 1) := by decide +kernel
theorem dX9_holdsUp_0 : decode cX9_holdsUp 0 = .ok (.aload_n 0, 1) := by decide +kernel
theorem dX9_holdsUp_1 : decode cX9_holdsUp 1 = .ok (.iload_n 1, 1) := by decide +kernel
theorem dX9_holdsUp_2 : decode cX9_holdsUp 2 = .ok (.invokevirtual 114, 3) := by decide +kernel
theorem dX9_holdsUp_5 : decode cX9_holdsUp 5 = .ok (.istore 4, 2) := by decide +kernel
theorem dX9_holdsUp_7 : decode cX9_holdsUp 7 = .ok (.iload 4, 2) := by decide +kernel
theorem dX9_holdsUp_9 : decode cX9_holdsUp 9 = .ok (.iconst (-1), 1) := by decide +kernel
theorem dX9_holdsUp_10 : decode cX9_holdsUp 10 = .ok (.if_icmp .eq 27, 3) := by decide +kernel
theorem dX9_holdsUp_13 : decode cX9_holdsUp 13 = .ok (.aload_n 0, 1) := by decide +kernel
theorem dX9_holdsUp_14 : decode cX9_holdsUp 14 = .ok (.iload_n 2, 1) := by decide +kernel
theorem dX9_holdsUp_15 : decode cX9_holdsUp 15 = .ok (.iload 4, 2) := by decide +kernel
theorem dX9_holdsUp_17 : decode cX9_holdsUp 17 = .ok (.invokevirtual 214, 3) := by decide +kernel
theorem dX9_holdsUp_20 : decode cX9_holdsUp 20 = .ok (.ifCond .eq 17, 3) := by decide +kernel
theorem dX9_holdsUp_23 : decode cX9_holdsUp 23 = .ok (.aload_n 0, 1) := by decide +kernel
theorem dX9_holdsUp_24 : decode cX9_holdsUp 24 = .ok (.iload_n 3, 1) := by decide +kernel
theorem dX9_holdsUp_25 : decode cX9_holdsUp 25 = .ok (.iload 4, 2) := by decide +kernel
theorem dX9_holdsUp_27 : decode cX9_holdsUp 27 = .ok (.invokevirtual 214, 3) := by decide +kernel
theorem dX9_holdsUp_30 : decode cX9_holdsUp 30 = .ok (.ifCond .ne 7, 3) := by decide +kernel
theorem dX9_holdsUp_33 : decode cX9_holdsUp 33 = .ok (.iconst 1, 1) := by decide +kernel
theorem dX9_holdsUp_34 : decode cX9_holdsUp 34 = .ok (.goto 4, 3) := by decide +kernel
theorem dX9_holdsUp_37 : decode cX9_holdsUp 37 = .ok (.iconst 0, 1) := by decide +kernel
theorem dX9_holdsUp_38 : decode cX9_holdsUp 38 = .ok (.ireturn, 1) := by decide +kernel
theorem dX9_isHeard_0 : decode cX9_isHeard 0 = .ok (.aload_n 0, 1) := by decide +kernel
theorem dX9_isHeard_1 : decode cX9_isHeard 1 = .ok (.getfield 35, 3) := by decide +kernel
theorem dX9_isHeard_4 : decode cX9_isHeard 4 = .ok (.iload_n 1, 1) := by decide +kernel
theorem dX9_isHeard_5 : decode cX9_isHeard 5 = .ok (.iaload, 1) := by decide +kernel
theorem dX9_isHeard_6 : decode cX9_isHeard 6 = .ok (.istore 4, 2) := by decide +kernel
theorem dX9_isHeard_8 : decode cX9_isHeard 8 = .ok (.aload_n 0, 1) := by decide +kernel
theorem dX9_isHeard_9 : decode cX9_isHeard 9 = .ok (.getfield 26, 3) := by decide +kernel
theorem dX9_isHeard_12 : decode cX9_isHeard 12 = .ok (.iload_n 1, 1) := by decide +kernel
theorem dX9_isHeard_13 : decode cX9_isHeard 13 = .ok (.iaload, 1) := by decide +kernel
theorem dX9_isHeard_14 : decode cX9_isHeard 14 = .ok (.tableswitch 165 1 6 #[38, 89, 57, 149, 111, 151], 38) := by decide +kernel
theorem dX9_isHeard_52 : decode cX9_isHeard 52 = .ok (.aload_n 0, 1) := by decide +kernel
theorem dX9_isHeard_53 : decode cX9_isHeard 53 = .ok (.iload 4, 2) := by decide +kernel
theorem dX9_isHeard_55 : decode cX9_isHeard 55 = .ok (.iconst 1, 1) := by decide +kernel
theorem dX9_isHeard_56 : decode cX9_isHeard 56 = .ok (.isub, 1) := by decide +kernel
theorem dX9_isHeard_57 : decode cX9_isHeard 57 = .ok (.iload_n 2, 1) := by decide +kernel
theorem dX9_isHeard_58 : decode cX9_isHeard 58 = .ok (.iload_n 3, 1) := by decide +kernel
theorem dX9_isHeard_59 : decode cX9_isHeard 59 = .ok (.invokevirtual 217, 3) := by decide +kernel
theorem dX9_isHeard_62 : decode cX9_isHeard 62 = .ok (.ifCond .ne 7, 3) := by decide +kernel
theorem dX9_isHeard_65 : decode cX9_isHeard 65 = .ok (.iconst 1, 1) := by decide +kernel
theorem dX9_isHeard_66 : decode cX9_isHeard 66 = .ok (.goto 4, 3) := by decide +kernel
theorem dX9_isHeard_69 : decode cX9_isHeard 69 = .ok (.iconst 0, 1) := by decide +kernel
theorem dX9_isHeard_70 : decode cX9_isHeard 70 = .ok (.ireturn, 1) := by decide +kernel
theorem dX9_isHeard_71 : decode cX9_isHeard 71 = .ok (.aload_n 0, 1) := by decide +kernel
theorem dX9_isHeard_72 : decode cX9_isHeard 72 = .ok (.iload 4, 2) := by decide +kernel
theorem dX9_isHeard_74 : decode cX9_isHeard 74 = .ok (.iconst 1, 1) := by decide +kernel
theorem dX9_isHeard_75 : decode cX9_isHeard 75 = .ok (.isub, 1) := by decide +kernel
theorem dX9_isHeard_76 : decode cX9_isHeard 76 = .ok (.iload_n 2, 1) := by decide +kernel
theorem dX9_isHeard_77 : decode cX9_isHeard 77 = .ok (.iload_n 3, 1) := by decide +kernel
theorem dX9_isHeard_78 : decode cX9_isHeard 78 = .ok (.invokevirtual 217, 3) := by decide +kernel
theorem dX9_isHeard_81 : decode cX9_isHeard 81 = .ok (.ifCond .ne 20, 3) := by decide +kernel
theorem dX9_isHeard_84 : decode cX9_isHeard 84 = .ok (.aload_n 0, 1) := by decide +kernel
theorem dX9_isHeard_85 : decode cX9_isHeard 85 = .ok (.iload 4, 2) := by decide +kernel
theorem dX9_isHeard_87 : decode cX9_isHeard 87 = .ok (.iconst 1, 1) := by decide +kernel
theorem dX9_isHeard_88 : decode cX9_isHeard 88 = .ok (.iadd, 1) := by decide +kernel
theorem dX9_isHeard_89 : decode cX9_isHeard 89 = .ok (.iload_n 2, 1) := by decide +kernel
theorem dX9_isHeard_90 : decode cX9_isHeard 90 = .ok (.iload_n 3, 1) := by decide +kernel
theorem dX9_isHeard_91 : decode cX9_isHeard 91 = .ok (.invokevirtual 217, 3) := by decide +kernel
theorem dX9_isHeard_94 : decode cX9_isHeard 94 = .ok (.ifCond .ne 7, 3) := by decide +kernel
theorem dX9_isHeard_97 : decode cX9_isHeard 97 = .ok (.iconst 1, 1) := by decide +kernel
theorem dX9_isHeard_98 : decode cX9_isHeard 98 = .ok (.goto 4, 3) := by decide +kernel
theorem dX9_isHeard_101 : decode cX9_isHeard 101 = .ok (.iconst 0, 1) := by decide +kernel
theorem dX9_isHeard_102 : decode cX9_isHeard 102 = .ok (.ireturn, 1) := by decide +kernel
theorem dX9_isHeard_103 : decode cX9_isHeard 103 = .ok (.aload_n 0, 1) := by decide +kernel
theorem dX9_isHeard_104 : decode cX9_isHeard 104 = .ok (.iload_n 2, 1) := by decide +kernel
theorem dX9_isHeard_105 : decode cX9_isHeard 105 = .ok (.invokevirtual 221, 3) := by decide +kernel
theorem dX9_isHeard_108 : decode cX9_isHeard 108 = .ok (.aload_n 0, 1) := by decide +kernel
theorem dX9_isHeard_109 : decode cX9_isHeard 109 = .ok (.getfield 29, 3) := by decide +kernel
theorem dX9_isHeard_112 : decode cX9_isHeard 112 = .ok (.iload_n 1, 1) := by decide +kernel
theorem dX9_isHeard_113 : decode cX9_isHeard 113 = .ok (.iaload, 1) := by decide +kernel
theorem dX9_isHeard_114 : decode cX9_isHeard 114 = .ok (.iconst 1, 1) := by decide +kernel
theorem dX9_isHeard_115 : decode cX9_isHeard 115 = .ok (.iadd, 1) := by decide +kernel
theorem dX9_isHeard_116 : decode cX9_isHeard 116 = .ok (.if_icmp .le 7, 3) := by decide +kernel
theorem dX9_isHeard_119 : decode cX9_isHeard 119 = .ok (.iconst 1, 1) := by decide +kernel
theorem dX9_isHeard_120 : decode cX9_isHeard 120 = .ok (.goto 4, 3) := by decide +kernel
theorem dX9_isHeard_123 : decode cX9_isHeard 123 = .ok (.iconst 0, 1) := by decide +kernel
theorem dX9_isHeard_124 : decode cX9_isHeard 124 = .ok (.ireturn, 1) := by decide +kernel
theorem dX9_isHeard_125 : decode cX9_isHeard 125 = .ok (.aload_n 0, 1) := by decide +kernel
theorem dX9_isHeard_126 : decode cX9_isHeard 126 = .ok (.iload_n 2, 1) := by decide +kernel
theorem dX9_isHeard_127 : decode cX9_isHeard 127 = .ok (.invokevirtual 221, 3) := by decide +kernel
theorem dX9_isHeard_130 : decode cX9_isHeard 130 = .ok (.aload_n 0, 1) := by decide +kernel
theorem dX9_isHeard_131 : decode cX9_isHeard 131 = .ok (.getfield 29, 3) := by decide +kernel
theorem dX9_isHeard_134 : decode cX9_isHeard 134 = .ok (.iload_n 1, 1) := by decide +kernel
theorem dX9_isHeard_135 : decode cX9_isHeard 135 = .ok (.iaload, 1) := by decide +kernel
theorem dX9_isHeard_136 : decode cX9_isHeard 136 = .ok (.iconst 1, 1) := by decide +kernel
theorem dX9_isHeard_137 : decode cX9_isHeard 137 = .ok (.iadd, 1) := by decide +kernel
theorem dX9_isHeard_138 : decode cX9_isHeard 138 = .ok (.if_icmp .le 23, 3) := by decide +kernel
theorem dX9_isHeard_141 : decode cX9_isHeard 141 = .ok (.iload 4, 2) := by decide +kernel
theorem dX9_isHeard_143 : decode cX9_isHeard 143 = .ok (.ifCond .le 18, 3) := by decide +kernel
theorem dX9_isHeard_146 : decode cX9_isHeard 146 = .ok (.iload 4, 2) := by decide +kernel
theorem dX9_isHeard_148 : decode cX9_isHeard 148 = .ok (.aload_n 0, 1) := by decide +kernel
theorem dX9_isHeard_149 : decode cX9_isHeard 149 = .ok (.getfield 96, 3) := by decide +kernel
theorem dX9_isHeard_152 : decode cX9_isHeard 152 = .ok (.iconst 1, 1) := by decide +kernel
theorem dX9_isHeard_153 : decode cX9_isHeard 153 = .ok (.isub, 1) := by decide +kernel
theorem dX9_isHeard_154 : decode cX9_isHeard 154 = .ok (.if_icmp .ge 7, 3) := by decide +kernel
theorem dX9_isHeard_157 : decode cX9_isHeard 157 = .ok (.iconst 1, 1) := by decide +kernel
theorem dX9_isHeard_158 : decode cX9_isHeard 158 = .ok (.goto 4, 3) := by decide +kernel
theorem dX9_isHeard_161 : decode cX9_isHeard 161 = .ok (.iconst 0, 1) := by decide +kernel
theorem dX9_isHeard_162 : decode cX9_isHeard 162 = .ok (.ireturn, 1) := by decide +kernel
theorem dX9_isHeard_163 : decode cX9_isHeard 163 = .ok (.iconst 0, 1) := by decide +kernel
theorem dX9_isHeard_164 : decode cX9_isHeard 164 = .ok (.ireturn, 1) := by decide +kernel
theorem dX9_isHeard_165 : decode cX9_isHeard 165 = .ok (.iload_n 2, 1) := by decide +kernel
theorem dX9_isHeard_166 : decode cX9_isHeard 166 = .ok (.aload_n 0, 1) := by decide +kernel
theorem dX9_isHeard_167 : decode cX9_isHeard 167 = .ok (.invokevirtual 99, 3) := by decide +kernel
theorem dX9_isHeard_170 : decode cX9_isHeard 170 = .ok (.if_icmp .ne 7, 3) := by decide +kernel
theorem dX9_isHeard_173 : decode cX9_isHeard 173 = .ok (.iconst 1, 1) := by decide +kernel
theorem dX9_isHeard_174 : decode cX9_isHeard 174 = .ok (.goto 4, 3) := by decide +kernel
theorem dX9_isHeard_177 : decode cX9_isHeard 177 = .ok (.iconst 0, 1) := by decide +kernel
theorem dX9_isHeard_178 : decode cX9_isHeard 178 = .ok (.ireturn, 1) := by decide +kernel
theorem dX9_isHeard_179 : decode cX9_isHeard 179 = .ok (.iconst 1, 1) := by decide +kernel
theorem dX9_isHeard_180 : decode cX9_isHeard 180 = .ok (.ireturn, 1) := by decide +kernel
theorem dX9_soundOf_0 : decode cX9_soundOf 0 = .ok (.iconst 0, 1) := by decide +kernel
theorem dX9_soundOf_1 : decode cX9_soundOf 1 = .ok (.istore_n 3, 1) := by decide +kernel
theorem dX9_soundOf_2 : decode cX9_soundOf 2 = .ok (.iload_n 3, 1) := by decide +kernel
theorem dX9_soundOf_3 : decode cX9_soundOf 3 = .ok (.aload_n 0, 1) := by decide +kernel
theorem dX9_soundOf_4 : decode cX9_soundOf 4 = .ok (.getfield 96, 3) := by decide +kernel
theorem dX9_soundOf_7 : decode cX9_soundOf 7 = .ok (.if_icmp .ge 32, 3) := by decide +kernel
theorem dX9_soundOf_10 : decode cX9_soundOf 10 = .ok (.aload_n 0, 1) := by decide +kernel
theorem dX9_soundOf_11 : decode cX9_soundOf 11 = .ok (.iload_n 1, 1) := by decide +kernel
theorem dX9_soundOf_12 : decode cX9_soundOf 12 = .ok (.iload_n 2, 1) := by decide +kernel
theorem dX9_soundOf_13 : decode cX9_soundOf 13 = .ok (.iand, 1) := by decide +kernel
theorem dX9_soundOf_14 : decode cX9_soundOf 14 = .ok (.iload_n 3, 1) := by decide +kernel
theorem dX9_soundOf_15 : decode cX9_soundOf 15 = .ok (.invokevirtual 214, 3) := by decide +kernel
theorem dX9_soundOf_18 : decode cX9_soundOf 18 = .ok (.ifCond .eq 15, 3) := by decide +kernel
theorem dX9_soundOf_21 : decode cX9_soundOf 21 = .ok (.aload_n 0, 1) := by decide +kernel
theorem dX9_soundOf_22 : decode cX9_soundOf 22 = .ok (.iload_n 3, 1) := by decide +kernel
theorem dX9_soundOf_23 : decode cX9_soundOf 23 = .ok (.iload_n 1, 1) := by decide +kernel
theorem dX9_soundOf_24 : decode cX9_soundOf 24 = .ok (.iload_n 2, 1) := by decide +kernel
theorem dX9_soundOf_25 : decode cX9_soundOf 25 = .ok (.invokevirtual 224, 3) := by decide +kernel
theorem dX9_soundOf_28 : decode cX9_soundOf 28 = .ok (.ifCond .eq 5, 3) := by decide +kernel
theorem dX9_soundOf_31 : decode cX9_soundOf 31 = .ok (.iconst 1, 1) := by decide +kernel
theorem dX9_soundOf_32 : decode cX9_soundOf 32 = .ok (.ireturn, 1) := by decide +kernel
theorem dX9_soundOf_33 : decode cX9_soundOf 33 = .ok (.iinc 3 1, 3) := by decide +kernel
theorem dX9_soundOf_36 : decode cX9_soundOf 36 = .ok (.goto (-34), 3) := by decide +kernel
theorem dX9_soundOf_39 : decode cX9_soundOf 39 = .ok (.iconst 0, 1) := by decide +kernel
theorem dX9_soundOf_40 : decode cX9_soundOf 40 = .ok (.ireturn, 1) := by decide +kernel
theorem dX9_isWorld_0 : decode cX9_isWorld 0 = .ok (.aload_n 0, 1) := by decide +kernel
theorem dX9_isWorld_1 : decode cX9_isWorld 1 = .ok (.iload_n 1, 1) := by decide +kernel
theorem dX9_isWorld_2 : decode cX9_isWorld 2 = .ok (.invokevirtual 172, 3) := by decide +kernel
theorem dX9_isWorld_5 : decode cX9_isWorld 5 = .ok (.ifCond .eq 19, 3) := by decide +kernel
theorem dX9_isWorld_8 : decode cX9_isWorld 8 = .ok (.aload_n 0, 1) := by decide +kernel
theorem dX9_isWorld_9 : decode cX9_isWorld 9 = .ok (.iload_n 1, 1) := by decide +kernel
theorem dX9_isWorld_10 : decode cX9_isWorld 10 = .ok (.invokevirtual 221, 3) := by decide +kernel
theorem dX9_isWorld_13 : decode cX9_isWorld 13 = .ok (.aload_n 0, 1) := by decide +kernel
theorem dX9_isWorld_14 : decode cX9_isWorld 14 = .ok (.getfield 7, 3) := by decide +kernel
theorem dX9_isWorld_17 : decode cX9_isWorld 17 = .ok (.if_icmp .gt 7, 3) := by decide +kernel
theorem dX9_isWorld_20 : decode cX9_isWorld 20 = .ok (.iconst 1, 1) := by decide +kernel
theorem dX9_isWorld_21 : decode cX9_isWorld 21 = .ok (.goto 4, 3) := by decide +kernel
theorem dX9_isWorld_24 : decode cX9_isWorld 24 = .ok (.iconst 0, 1) := by decide +kernel
theorem dX9_isWorld_25 : decode cX9_isWorld 25 = .ok (.ireturn, 1) := by decide +kernel
theorem dX9_lists_0 : decode cX9_lists 0 = .ok (.aload_n 0, 1) := by decide +kernel
theorem dX9_lists_1 : decode cX9_lists 1 = .ok (.iconst 0, 1) := by decide +kernel
theorem dX9_lists_2 : decode cX9_lists 2 = .ok (.putfield 227, 3) := by decide +kernel
theorem dX9_lists_5 : decode cX9_lists 5 = .ok (.iconst 1, 1) := by decide +kernel
theorem dX9_lists_6 : decode cX9_lists 6 = .ok (.istore_n 1, 1) := by decide +kernel
theorem dX9_lists_7 : decode cX9_lists 7 = .ok (.iload_n 1, 1) := by decide +kernel
theorem dX9_lists_8 : decode cX9_lists 8 = .ok (.aload_n 0, 1) := by decide +kernel
theorem dX9_lists_9 : decode cX9_lists 9 = .ok (.getfield 7, 3) := by decide +kernel
theorem dX9_lists_12 : decode cX9_lists 12 = .ok (.if_icmp .gt 57, 3) := by decide +kernel
theorem dX9_lists_15 : decode cX9_lists 15 = .ok (.iconst 1, 1) := by decide +kernel
theorem dX9_lists_16 : decode cX9_lists 16 = .ok (.istore_n 2, 1) := by decide +kernel
theorem dX9_lists_17 : decode cX9_lists 17 = .ok (.iload_n 2, 1) := by decide +kernel
theorem dX9_lists_18 : decode cX9_lists 18 = .ok (.aload_n 0, 1) := by decide +kernel
theorem dX9_lists_19 : decode cX9_lists 19 = .ok (.invokevirtual 99, 3) := by decide +kernel
theorem dX9_lists_22 : decode cX9_lists 22 = .ok (.if_icmp .gt 41, 3) := by decide +kernel
theorem dX9_lists_25 : decode cX9_lists 25 = .ok (.aload_n 0, 1) := by decide +kernel
theorem dX9_lists_26 : decode cX9_lists 26 = .ok (.iload_n 2, 1) := by decide +kernel
theorem dX9_lists_27 : decode cX9_lists 27 = .ok (.invokevirtual 221, 3) := by decide +kernel
theorem dX9_lists_30 : decode cX9_lists 30 = .ok (.iload_n 1, 1) := by decide +kernel
theorem dX9_lists_31 : decode cX9_lists 31 = .ok (.if_icmp .eq 6, 3) := by decide +kernel
theorem dX9_lists_34 : decode cX9_lists 34 = .ok (.goto 23, 3) := by decide +kernel
theorem dX9_lists_37 : decode cX9_lists 37 = .ok (.aload_n 0, 1) := by decide +kernel
theorem dX9_lists_38 : decode cX9_lists 38 = .ok (.getfield 78, 3) := by decide +kernel
theorem dX9_lists_41 : decode cX9_lists 41 = .ok (.aload_n 0, 1) := by decide +kernel
theorem dX9_lists_42 : decode cX9_lists 42 = .ok (.getfield 227, 3) := by decide +kernel
theorem dX9_lists_45 : decode cX9_lists 45 = .ok (.iload_n 2, 1) := by decide +kernel
theorem dX9_lists_46 : decode cX9_lists 46 = .ok (.iastore, 1) := by decide +kernel
theorem dX9_lists_47 : decode cX9_lists 47 = .ok (.aload_n 0, 1) := by decide +kernel
theorem dX9_lists_48 : decode cX9_lists 48 = .ok (.dup, 1) := by decide +kernel
theorem dX9_lists_49 : decode cX9_lists 49 = .ok (.getfield 227, 3) := by decide +kernel
theorem dX9_lists_52 : decode cX9_lists 52 = .ok (.iconst 1, 1) := by decide +kernel
theorem dX9_lists_53 : decode cX9_lists 53 = .ok (.iadd, 1) := by decide +kernel
theorem dX9_lists_54 : decode cX9_lists 54 = .ok (.putfield 227, 3) := by decide +kernel
theorem dX9_lists_57 : decode cX9_lists 57 = .ok (.iinc 2 1, 3) := by decide +kernel
theorem dX9_lists_60 : decode cX9_lists 60 = .ok (.goto (-43), 3) := by decide +kernel
theorem dX9_lists_63 : decode cX9_lists 63 = .ok (.iinc 1 1, 3) := by decide +kernel
theorem dX9_lists_66 : decode cX9_lists 66 = .ok (.goto (-59), 3) := by decide +kernel
theorem dX9_lists_69 : decode cX9_lists 69 = .ok (.aload_n 0, 1) := by decide +kernel
theorem dX9_lists_70 : decode cX9_lists 70 = .ok (.getfield 227, 3) := by decide +kernel
theorem dX9_lists_73 : decode cX9_lists 73 = .ok (.ireturn, 1) := by decide +kernel
theorem dX9_weight_0 : decode cX9_weight 0 = .ok (.iconst 1, 1) := by decide +kernel
theorem dX9_weight_1 : decode cX9_weight 1 = .ok (.istore_n 2, 1) := by decide +kernel
theorem dX9_weight_2 : decode cX9_weight 2 = .ok (.iconst 0, 1) := by decide +kernel
theorem dX9_weight_3 : decode cX9_weight 3 = .ok (.istore_n 3, 1) := by decide +kernel
theorem dX9_weight_4 : decode cX9_weight 4 = .ok (.iload_n 3, 1) := by decide +kernel
theorem dX9_weight_5 : decode cX9_weight 5 = .ok (.aload_n 0, 1) := by decide +kernel
theorem dX9_weight_6 : decode cX9_weight 6 = .ok (.getfield 96, 3) := by decide +kernel
theorem dX9_weight_9 : decode cX9_weight 9 = .ok (.if_icmp .ge 27, 3) := by decide +kernel
theorem dX9_weight_12 : decode cX9_weight 12 = .ok (.aload_n 0, 1) := by decide +kernel
theorem dX9_weight_13 : decode cX9_weight 13 = .ok (.iload_n 1, 1) := by decide +kernel
theorem dX9_weight_14 : decode cX9_weight 14 = .ok (.iload_n 3, 1) := by decide +kernel
theorem dX9_weight_15 : decode cX9_weight 15 = .ok (.invokevirtual 214, 3) := by decide +kernel
theorem dX9_weight_18 : decode cX9_weight 18 = .ok (.ifCond .eq 12, 3) := by decide +kernel
theorem dX9_weight_21 : decode cX9_weight 21 = .ok (.iload_n 2, 1) := by decide +kernel
theorem dX9_weight_22 : decode cX9_weight 22 = .ok (.aload_n 0, 1) := by decide +kernel
theorem dX9_weight_23 : decode cX9_weight 23 = .ok (.getfield 32, 3) := by decide +kernel
theorem dX9_weight_26 : decode cX9_weight 26 = .ok (.iload_n 3, 1) := by decide +kernel
theorem dX9_weight_27 : decode cX9_weight 27 = .ok (.iaload, 1) := by decide +kernel
theorem dX9_weight_28 : decode cX9_weight 28 = .ok (.imul, 1) := by decide +kernel
theorem dX9_weight_29 : decode cX9_weight 29 = .ok (.istore_n 2, 1) := by decide +kernel
theorem dX9_weight_30 : decode cX9_weight 30 = .ok (.iinc 3 1, 3) := by decide +kernel
theorem dX9_weight_33 : decode cX9_weight 33 = .ok (.goto (-29), 3) := by decide +kernel
theorem dX9_weight_36 : decode cX9_weight 36 = .ok (.iload_n 2, 1) := by decide +kernel
theorem dX9_weight_37 : decode cX9_weight 37 = .ok (.ireturn, 1) := by decide +kernel
theorem dX9_stays_0 : decode cX9_stays 0 = .ok (.iconst 0, 1) := by decide +kernel
theorem dX9_stays_1 : decode cX9_stays 1 = .ok (.istore 4, 2) := by decide +kernel
theorem dX9_stays_3 : decode cX9_stays 3 = .ok (.iconst 0, 1) := by decide +kernel
theorem dX9_stays_4 : decode cX9_stays 4 = .ok (.istore 5, 2) := by decide +kernel
theorem dX9_stays_6 : decode cX9_stays 6 = .ok (.iload 5, 2) := by decide +kernel
theorem dX9_stays_8 : decode cX9_stays 8 = .ok (.iload_n 1, 1) := by decide +kernel
theorem dX9_stays_9 : decode cX9_stays 9 = .ok (.if_icmp .ge 45, 3) := by decide +kernel
theorem dX9_stays_12 : decode cX9_stays 12 = .ok (.aload_n 0, 1) := by decide +kernel
theorem dX9_stays_13 : decode cX9_stays 13 = .ok (.iload_n 2, 1) := by decide +kernel
theorem dX9_stays_14 : decode cX9_stays 14 = .ok (.aload_n 0, 1) := by decide +kernel
theorem dX9_stays_15 : decode cX9_stays 15 = .ok (.getfield 81, 3) := by decide +kernel
theorem dX9_stays_18 : decode cX9_stays 18 = .ok (.iload 5, 2) := by decide +kernel
theorem dX9_stays_20 : decode cX9_stays 20 = .ok (.iaload, 1) := by decide +kernel
theorem dX9_stays_21 : decode cX9_stays 21 = .ok (.invokevirtual 230, 3) := by decide +kernel
theorem dX9_stays_24 : decode cX9_stays 24 = .ok (.iload_n 3, 1) := by decide +kernel
theorem dX9_stays_25 : decode cX9_stays 25 = .ok (.if_icmp .eq 6, 3) := by decide +kernel
theorem dX9_stays_28 : decode cX9_stays 28 = .ok (.goto 20, 3) := by decide +kernel
theorem dX9_stays_31 : decode cX9_stays 31 = .ok (.aload_n 0, 1) := by decide +kernel
theorem dX9_stays_32 : decode cX9_stays 32 = .ok (.getfield 81, 3) := by decide +kernel
theorem dX9_stays_35 : decode cX9_stays 35 = .ok (.iload 4, 2) := by decide +kernel
theorem dX9_stays_37 : decode cX9_stays 37 = .ok (.aload_n 0, 1) := by decide +kernel
theorem dX9_stays_38 : decode cX9_stays 38 = .ok (.getfield 81, 3) := by decide +kernel
theorem dX9_stays_41 : decode cX9_stays 41 = .ok (.iload 5, 2) := by decide +kernel
theorem dX9_stays_43 : decode cX9_stays 43 = .ok (.iaload, 1) := by decide +kernel
theorem dX9_stays_44 : decode cX9_stays 44 = .ok (.iastore, 1) := by decide +kernel
theorem dX9_stays_45 : decode cX9_stays 45 = .ok (.iinc 4 1, 3) := by decide +kernel
theorem dX9_stays_48 : decode cX9_stays 48 = .ok (.iinc 5 1, 3) := by decide +kernel
theorem dX9_stays_51 : decode cX9_stays 51 = .ok (.goto (-45), 3) := by decide +kernel
theorem dX9_stays_54 : decode cX9_stays 54 = .ok (.iload 4, 2) := by decide +kernel
theorem dX9_stays_56 : decode cX9_stays 56 = .ok (.ireturn, 1) := by decide +kernel
theorem dX9_possible_0 : decode cX9_possible 0 = .ok (.aload_n 0, 1) := by decide +kernel
theorem dX9_possible_1 : decode cX9_possible 1 = .ok (.invokevirtual 233, 3) := by decide +kernel
theorem dX9_possible_4 : decode cX9_possible 4 = .ok (.istore_n 1, 1) := by decide +kernel
theorem dX9_possible_5 : decode cX9_possible 5 = .ok (.iconst 0, 1) := by decide +kernel
theorem dX9_possible_6 : decode cX9_possible 6 = .ok (.istore_n 2, 1) := by decide +kernel
theorem dX9_possible_7 : decode cX9_possible 7 = .ok (.iload_n 2, 1) := by decide +kernel
theorem dX9_possible_8 : decode cX9_possible 8 = .ok (.iload_n 1, 1) := by decide +kernel
theorem dX9_possible_9 : decode cX9_possible 9 = .ok (.if_icmp .ge 21, 3) := by decide +kernel
theorem dX9_possible_12 : decode cX9_possible 12 = .ok (.aload_n 0, 1) := by decide +kernel
theorem dX9_possible_13 : decode cX9_possible 13 = .ok (.getfield 81, 3) := by decide +kernel
theorem dX9_possible_16 : decode cX9_possible 16 = .ok (.iload_n 2, 1) := by decide +kernel
theorem dX9_possible_17 : decode cX9_possible 17 = .ok (.aload_n 0, 1) := by decide +kernel
theorem dX9_possible_18 : decode cX9_possible 18 = .ok (.getfield 78, 3) := by decide +kernel
theorem dX9_possible_21 : decode cX9_possible 21 = .ok (.iload_n 2, 1) := by decide +kernel
theorem dX9_possible_22 : decode cX9_possible 22 = .ok (.iaload, 1) := by decide +kernel
theorem dX9_possible_23 : decode cX9_possible 23 = .ok (.iastore, 1) := by decide +kernel
theorem dX9_possible_24 : decode cX9_possible 24 = .ok (.iinc 2 1, 3) := by decide +kernel
theorem dX9_possible_27 : decode cX9_possible 27 = .ok (.goto (-20), 3) := by decide +kernel
theorem dX9_possible_30 : decode cX9_possible 30 = .ok (.iconst 0, 1) := by decide +kernel
theorem dX9_possible_31 : decode cX9_possible 31 = .ok (.istore_n 2, 1) := by decide +kernel
theorem dX9_possible_32 : decode cX9_possible 32 = .ok (.iload_n 2, 1) := by decide +kernel
theorem dX9_possible_33 : decode cX9_possible 33 = .ok (.aload_n 0, 1) := by decide +kernel
theorem dX9_possible_34 : decode cX9_possible 34 = .ok (.getfield 123, 3) := by decide +kernel
theorem dX9_possible_37 : decode cX9_possible 37 = .ok (.if_icmp .ge 27, 3) := by decide +kernel
theorem dX9_possible_40 : decode cX9_possible 40 = .ok (.aload_n 0, 1) := by decide +kernel
theorem dX9_possible_41 : decode cX9_possible 41 = .ok (.iload_n 1, 1) := by decide +kernel
theorem dX9_possible_42 : decode cX9_possible 42 = .ok (.aload_n 0, 1) := by decide +kernel
theorem dX9_possible_43 : decode cX9_possible 43 = .ok (.getfield 38, 3) := by decide +kernel
theorem dX9_possible_46 : decode cX9_possible 46 = .ok (.iload_n 2, 1) := by decide +kernel
theorem dX9_possible_47 : decode cX9_possible 47 = .ok (.iaload, 1) := by decide +kernel
theorem dX9_possible_48 : decode cX9_possible 48 = .ok (.aload_n 0, 1) := by decide +kernel
theorem dX9_possible_49 : decode cX9_possible 49 = .ok (.getfield 41, 3) := by decide +kernel
theorem dX9_possible_52 : decode cX9_possible 52 = .ok (.iload_n 2, 1) := by decide +kernel
theorem dX9_possible_53 : decode cX9_possible 53 = .ok (.iaload, 1) := by decide +kernel
theorem dX9_possible_54 : decode cX9_possible 54 = .ok (.invokevirtual 236, 3) := by decide +kernel
theorem dX9_possible_57 : decode cX9_possible 57 = .ok (.istore_n 1, 1) := by decide +kernel
theorem dX9_possible_58 : decode cX9_possible 58 = .ok (.iinc 2 1, 3) := by decide +kernel
theorem dX9_possible_61 : decode cX9_possible 61 = .ok (.goto (-29), 3) := by decide +kernel
theorem dX9_possible_64 : decode cX9_possible 64 = .ok (.iload_n 1, 1) := by decide +kernel
theorem dX9_possible_65 : decode cX9_possible 65 = .ok (.ireturn, 1) := by decide +kernel
theorem dX9_mayBe_0 : decode cX9_mayBe 0 = .ok (.aload_n 0, 1) := by decide +kernel
theorem dX9_mayBe_1 : decode cX9_mayBe 1 = .ok (.invokevirtual 239, 3) := by decide +kernel
theorem dX9_mayBe_4 : decode cX9_mayBe 4 = .ok (.istore_n 3, 1) := by decide +kernel
theorem dX9_mayBe_5 : decode cX9_mayBe 5 = .ok (.aload_n 0, 1) := by decide +kernel
theorem dX9_mayBe_6 : decode cX9_mayBe 6 = .ok (.iload_n 3, 1) := by decide +kernel
theorem dX9_mayBe_7 : decode cX9_mayBe 7 = .ok (.iload_n 1, 1) := by decide +kernel
theorem dX9_mayBe_8 : decode cX9_mayBe 8 = .ok (.iload_n 2, 1) := by decide +kernel
theorem dX9_mayBe_9 : decode cX9_mayBe 9 = .ok (.invokevirtual 236, 3) := by decide +kernel
theorem dX9_mayBe_12 : decode cX9_mayBe 12 = .ok (.ifCond .le 7, 3) := by decide +kernel
theorem dX9_mayBe_15 : decode cX9_mayBe 15 = .ok (.iconst 1, 1) := by decide +kernel
theorem dX9_mayBe_16 : decode cX9_mayBe 16 = .ok (.goto 4, 3) := by decide +kernel
theorem dX9_mayBe_19 : decode cX9_mayBe 19 = .ok (.iconst 0, 1) := by decide +kernel
theorem dX9_mayBe_20 : decode cX9_mayBe 20 = .ok (.ireturn, 1) := by decide +kernel
theorem dX9_worlds_0 : decode cX9_worlds 0 = .ok (.aload_n 0, 1) := by decide +kernel
theorem dX9_worlds_1 : decode cX9_worlds 1 = .ok (.iload_n 1, 1) := by decide +kernel
theorem dX9_worlds_2 : decode cX9_worlds 2 = .ok (.invokevirtual 175, 3) := by decide +kernel
theorem dX9_worlds_5 : decode cX9_worlds 5 = .ok (.ifCond .ne 10, 3) := by decide +kernel
theorem dX9_worlds_8 : decode cX9_worlds 8 = .ok (.aload_n 0, 1) := by decide +kernel
theorem dX9_worlds_9 : decode cX9_worlds 9 = .ok (.bipush (-5), 2) := by decide +kernel
theorem dX9_worlds_11 : decode cX9_worlds 11 = .ok (.invokevirtual 107, 3) := by decide +kernel
theorem dX9_worlds_14 : decode cX9_worlds 14 = .ok (.ireturn, 1) := by decide +kernel
theorem dX9_worlds_15 : decode cX9_worlds 15 = .ok (.iload_n 1, 1) := by decide +kernel
theorem dX9_worlds_16 : decode cX9_worlds 16 = .ok (.ifCond .ne 10, 3) := by decide +kernel
theorem dX9_worlds_19 : decode cX9_worlds 19 = .ok (.aload_n 0, 1) := by decide +kernel
theorem dX9_worlds_20 : decode cX9_worlds 20 = .ok (.invokevirtual 233, 3) := by decide +kernel
theorem dX9_worlds_23 : decode cX9_worlds 23 = .ok (.goto 7, 3) := by decide +kernel
theorem dX9_worlds_26 : decode cX9_worlds 26 = .ok (.aload_n 0, 1) := by decide +kernel
theorem dX9_worlds_27 : decode cX9_worlds 27 = .ok (.invokevirtual 239, 3) := by decide +kernel
theorem dX9_worlds_30 : decode cX9_worlds 30 = .ok (.ireturn, 1) := by decide +kernel
theorem dX9_world_0 : decode cX9_world 0 = .ok (.iload_n 1, 1) := by decide +kernel
theorem dX9_world_1 : decode cX9_world 1 = .ok (.ifCond .lt 20, 3) := by decide +kernel
theorem dX9_world_4 : decode cX9_world 4 = .ok (.iload_n 1, 1) := by decide +kernel
theorem dX9_world_5 : decode cX9_world 5 = .ok (.aload_n 0, 1) := by decide +kernel
theorem dX9_world_6 : decode cX9_world 6 = .ok (.invokevirtual 239, 3) := by decide +kernel
theorem dX9_world_9 : decode cX9_world 9 = .ok (.if_icmp .ge 12, 3) := by decide +kernel
theorem dX9_world_12 : decode cX9_world 12 = .ok (.aload_n 0, 1) := by decide +kernel
theorem dX9_world_13 : decode cX9_world 13 = .ok (.getfield 81, 3) := by decide +kernel
theorem dX9_world_16 : decode cX9_world 16 = .ok (.iload_n 1, 1) := by decide +kernel
theorem dX9_world_17 : decode cX9_world 17 = .ok (.iaload, 1) := by decide +kernel
theorem dX9_world_18 : decode cX9_world 18 = .ok (.goto 9, 3) := by decide +kernel
theorem dX9_world_21 : decode cX9_world 21 = .ok (.aload_n 0, 1) := by decide +kernel
theorem dX9_world_22 : decode cX9_world 22 = .ok (.bipush (-5), 2) := by decide +kernel
theorem dX9_world_24 : decode cX9_world 24 = .ok (.invokevirtual 107, 3) := by decide +kernel
theorem dX9_world_27 : decode cX9_world 27 = .ok (.ireturn, 1) := by decide +kernel
theorem dX9_sounds_0 : decode cX9_sounds 0 = .ok (.aload_n 0, 1) := by decide +kernel
theorem dX9_sounds_1 : decode cX9_sounds 1 = .ok (.iload_n 1, 1) := by decide +kernel
theorem dX9_sounds_2 : decode cX9_sounds 2 = .ok (.invokevirtual 172, 3) := by decide +kernel
theorem dX9_sounds_5 : decode cX9_sounds 5 = .ok (.ifCond .eq 20, 3) := by decide +kernel
theorem dX9_sounds_8 : decode cX9_sounds 8 = .ok (.aload_n 0, 1) := by decide +kernel
theorem dX9_sounds_9 : decode cX9_sounds 9 = .ok (.iload_n 2, 1) := by decide +kernel
theorem dX9_sounds_10 : decode cX9_sounds 10 = .ok (.invokevirtual 242, 3) := by decide +kernel
theorem dX9_sounds_13 : decode cX9_sounds 13 = .ok (.ifCond .eq 12, 3) := by decide +kernel
theorem dX9_sounds_16 : decode cX9_sounds 16 = .ok (.aload_n 0, 1) := by decide +kernel
theorem dX9_sounds_17 : decode cX9_sounds 17 = .ok (.iload_n 1, 1) := by decide +kernel
theorem dX9_sounds_18 : decode cX9_sounds 18 = .ok (.iload_n 2, 1) := by decide +kernel
theorem dX9_sounds_19 : decode cX9_sounds 19 = .ok (.invokevirtual 230, 3) := by decide +kernel
theorem dX9_sounds_22 : decode cX9_sounds 22 = .ok (.goto 9, 3) := by decide +kernel
theorem dX9_sounds_25 : decode cX9_sounds 25 = .ok (.aload_n 0, 1) := by decide +kernel
theorem dX9_sounds_26 : decode cX9_sounds 26 = .ok (.bipush (-6), 2) := by decide +kernel
theorem dX9_sounds_28 : decode cX9_sounds 28 = .ok (.invokevirtual 107, 3) := by decide +kernel
theorem dX9_sounds_31 : decode cX9_sounds 31 = .ok (.ireturn, 1) := by decide +kernel
theorem dX9_knows_0 : decode cX9_knows 0 = .ok (.aload_n 0, 1) := by decide +kernel
theorem dX9_knows_1 : decode cX9_knows 1 = .ok (.getfield 38, 3) := by decide +kernel
theorem dX9_knows_4 : decode cX9_knows 4 = .ok (.aload_n 0, 1) := by decide +kernel
theorem dX9_knows_5 : decode cX9_knows 5 = .ok (.getfield 123, 3) := by decide +kernel
theorem dX9_knows_8 : decode cX9_knows 8 = .ok (.iload_n 1, 1) := by decide +kernel
theorem dX9_knows_9 : decode cX9_knows 9 = .ok (.iastore, 1) := by decide +kernel
theorem dX9_knows_10 : decode cX9_knows 10 = .ok (.aload_n 0, 1) := by decide +kernel
theorem dX9_knows_11 : decode cX9_knows 11 = .ok (.getfield 41, 3) := by decide +kernel
theorem dX9_knows_14 : decode cX9_knows 14 = .ok (.aload_n 0, 1) := by decide +kernel
theorem dX9_knows_15 : decode cX9_knows 15 = .ok (.getfield 123, 3) := by decide +kernel
theorem dX9_knows_18 : decode cX9_knows 18 = .ok (.iload_n 2, 1) := by decide +kernel
theorem dX9_knows_19 : decode cX9_knows 19 = .ok (.iastore, 1) := by decide +kernel
theorem dX9_knows_20 : decode cX9_knows 20 = .ok (.aload_n 0, 1) := by decide +kernel
theorem dX9_knows_21 : decode cX9_knows 21 = .ok (.dup, 1) := by decide +kernel
theorem dX9_knows_22 : decode cX9_knows 22 = .ok (.getfield 123, 3) := by decide +kernel
theorem dX9_knows_25 : decode cX9_knows 25 = .ok (.iconst 1, 1) := by decide +kernel
theorem dX9_knows_26 : decode cX9_knows 26 = .ok (.iadd, 1) := by decide +kernel
theorem dX9_knows_27 : decode cX9_knows 27 = .ok (.putfield 123, 3) := by decide +kernel
theorem dX9_knows_30 : decode cX9_knows 30 = .ok (.return_, 1) := by decide +kernel
theorem dX9_heard_0 : decode cX9_heard 0 = .ok (.aload_n 0, 1) := by decide +kernel
theorem dX9_heard_1 : decode cX9_heard 1 = .ok (.iload_n 1, 1) := by decide +kernel
theorem dX9_heard_2 : decode cX9_heard 2 = .ok (.invokevirtual 172, 3) := by decide +kernel
theorem dX9_heard_5 : decode cX9_heard 5 = .ok (.ifCond .eq 20, 3) := by decide +kernel
theorem dX9_heard_8 : decode cX9_heard 8 = .ok (.aload_n 0, 1) := by decide +kernel
theorem dX9_heard_9 : decode cX9_heard 9 = .ok (.iload_n 2, 1) := by decide +kernel
theorem dX9_heard_10 : decode cX9_heard 10 = .ok (.invokevirtual 175, 3) := by decide +kernel
theorem dX9_heard_13 : decode cX9_heard 13 = .ok (.ifCond .eq 12, 3) := by decide +kernel
theorem dX9_heard_16 : decode cX9_heard 16 = .ok (.aload_n 0, 1) := by decide +kernel
theorem dX9_heard_17 : decode cX9_heard 17 = .ok (.iload_n 1, 1) := by decide +kernel
theorem dX9_heard_18 : decode cX9_heard 18 = .ok (.iload_n 2, 1) := by decide +kernel
theorem dX9_heard_19 : decode cX9_heard 19 = .ok (.invokevirtual 178, 3) := by decide +kernel
theorem dX9_heard_22 : decode cX9_heard 22 = .ok (.ifCond .ne 10, 3) := by decide +kernel
theorem dX9_heard_25 : decode cX9_heard 25 = .ok (.aload_n 0, 1) := by decide +kernel
theorem dX9_heard_26 : decode cX9_heard 26 = .ok (.bipush (-6), 2) := by decide +kernel
theorem dX9_heard_28 : decode cX9_heard 28 = .ok (.invokevirtual 107, 3) := by decide +kernel
theorem dX9_heard_31 : decode cX9_heard 31 = .ok (.ireturn, 1) := by decide +kernel
theorem dX9_heard_32 : decode cX9_heard 32 = .ok (.aload_n 0, 1) := by decide +kernel
theorem dX9_heard_33 : decode cX9_heard 33 = .ok (.iload_n 1, 1) := by decide +kernel
theorem dX9_heard_34 : decode cX9_heard 34 = .ok (.iload_n 2, 1) := by decide +kernel
theorem dX9_heard_35 : decode cX9_heard 35 = .ok (.invokevirtual 193, 3) := by decide +kernel
theorem dX9_heard_38 : decode cX9_heard 38 = .ok (.ifCond .ne 25, 3) := by decide +kernel
theorem dX9_heard_41 : decode cX9_heard 41 = .ok (.aload_n 0, 1) := by decide +kernel
theorem dX9_heard_42 : decode cX9_heard 42 = .ok (.getfield 123, 3) := by decide +kernel
theorem dX9_heard_45 : decode cX9_heard 45 = .ok (.bipush 16, 2) := by decide +kernel
theorem dX9_heard_47 : decode cX9_heard 47 = .ok (.if_icmp .ne 10, 3) := by decide +kernel
theorem dX9_heard_50 : decode cX9_heard 50 = .ok (.aload_n 0, 1) := by decide +kernel
theorem dX9_heard_51 : decode cX9_heard 51 = .ok (.bipush (-7), 2) := by decide +kernel
theorem dX9_heard_53 : decode cX9_heard 53 = .ok (.invokevirtual 107, 3) := by decide +kernel
theorem dX9_heard_56 : decode cX9_heard 56 = .ok (.ireturn, 1) := by decide +kernel
theorem dX9_heard_57 : decode cX9_heard 57 = .ok (.aload_n 0, 1) := by decide +kernel
theorem dX9_heard_58 : decode cX9_heard 58 = .ok (.iload_n 1, 1) := by decide +kernel
theorem dX9_heard_59 : decode cX9_heard 59 = .ok (.iload_n 2, 1) := by decide +kernel
theorem dX9_heard_60 : decode cX9_heard 60 = .ok (.invokevirtual 196, 3) := by decide +kernel
theorem dX9_heard_63 : decode cX9_heard 63 = .ok (.aload_n 0, 1) := by decide +kernel
theorem dX9_heard_64 : decode cX9_heard 64 = .ok (.invokevirtual 239, 3) := by decide +kernel
theorem dX9_heard_67 : decode cX9_heard 67 = .ok (.ireturn, 1) := by decide +kernel
theorem dX9_known_0 : decode cX9_known 0 = .ok (.iload_n 1, 1) := by decide +kernel
theorem dX9_known_1 : decode cX9_known 1 = .ok (.iconst (-1), 1) := by decide +kernel
theorem dX9_known_2 : decode cX9_known 2 = .ok (.if_icmp .ne 8, 3) := by decide +kernel
theorem dX9_known_5 : decode cX9_known 5 = .ok (.aload_n 0, 1) := by decide +kernel
theorem dX9_known_6 : decode cX9_known 6 = .ok (.getfield 123, 3) := by decide +kernel
theorem dX9_known_9 : decode cX9_known 9 = .ok (.ireturn, 1) := by decide +kernel
theorem dX9_known_10 : decode cX9_known 10 = .ok (.iload_n 1, 1) := by decide +kernel
theorem dX9_known_11 : decode cX9_known 11 = .ok (.ifCond .lt 29, 3) := by decide +kernel
theorem dX9_known_14 : decode cX9_known 14 = .ok (.iload_n 1, 1) := by decide +kernel
theorem dX9_known_15 : decode cX9_known 15 = .ok (.aload_n 0, 1) := by decide +kernel
theorem dX9_known_16 : decode cX9_known 16 = .ok (.getfield 123, 3) := by decide +kernel
theorem dX9_known_19 : decode cX9_known 19 = .ok (.if_icmp .ge 21, 3) := by decide +kernel
theorem dX9_known_22 : decode cX9_known 22 = .ok (.iconst 2, 1) := by decide +kernel
theorem dX9_known_23 : decode cX9_known 23 = .ok (.aload_n 0, 1) := by decide +kernel
theorem dX9_known_24 : decode cX9_known 24 = .ok (.getfield 38, 3) := by decide +kernel
theorem dX9_known_27 : decode cX9_known 27 = .ok (.iload_n 1, 1) := by decide +kernel
theorem dX9_known_28 : decode cX9_known 28 = .ok (.iaload, 1) := by decide +kernel
theorem dX9_known_29 : decode cX9_known 29 = .ok (.imul, 1) := by decide +kernel
theorem dX9_known_30 : decode cX9_known 30 = .ok (.aload_n 0, 1) := by decide +kernel
theorem dX9_known_31 : decode cX9_known 31 = .ok (.getfield 41, 3) := by decide +kernel
theorem dX9_known_34 : decode cX9_known 34 = .ok (.iload_n 1, 1) := by decide +kernel
theorem dX9_known_35 : decode cX9_known 35 = .ok (.iaload, 1) := by decide +kernel
theorem dX9_known_36 : decode cX9_known 36 = .ok (.iadd, 1) := by decide +kernel
theorem dX9_known_37 : decode cX9_known 37 = .ok (.goto 9, 3) := by decide +kernel
theorem dX9_known_40 : decode cX9_known 40 = .ok (.aload_n 0, 1) := by decide +kernel
theorem dX9_known_41 : decode cX9_known 41 = .ok (.bipush (-5), 2) := by decide +kernel
theorem dX9_known_43 : decode cX9_known 43 = .ok (.invokevirtual 107, 3) := by decide +kernel
theorem dX9_known_46 : decode cX9_known 46 = .ok (.ireturn, 1) := by decide +kernel
theorem dX9_forget_0 : decode cX9_forget 0 = .ok (.aload_n 0, 1) := by decide +kernel
theorem dX9_forget_1 : decode cX9_forget 1 = .ok (.getfield 123, 3) := by decide +kernel
theorem dX9_forget_4 : decode cX9_forget 4 = .ok (.istore_n 1, 1) := by decide +kernel
theorem dX9_forget_5 : decode cX9_forget 5 = .ok (.aload_n 0, 1) := by decide +kernel
theorem dX9_forget_6 : decode cX9_forget 6 = .ok (.iconst 0, 1) := by decide +kernel
theorem dX9_forget_7 : decode cX9_forget 7 = .ok (.putfield 123, 3) := by decide +kernel
theorem dX9_forget_10 : decode cX9_forget 10 = .ok (.iload_n 1, 1) := by decide +kernel
theorem dX9_forget_11 : decode cX9_forget 11 = .ok (.ireturn, 1) := by decide +kernel
theorem dX9_may_0 : decode cX9_may 0 = .ok (.aload_n 0, 1) := by decide +kernel
theorem dX9_may_1 : decode cX9_may 1 = .ok (.iload_n 1, 1) := by decide +kernel
theorem dX9_may_2 : decode cX9_may 2 = .ok (.invokevirtual 175, 3) := by decide +kernel
theorem dX9_may_5 : decode cX9_may 5 = .ok (.ifCond .ne 10, 3) := by decide +kernel
theorem dX9_may_8 : decode cX9_may 8 = .ok (.aload_n 0, 1) := by decide +kernel
theorem dX9_may_9 : decode cX9_may 9 = .ok (.bipush (-5), 2) := by decide +kernel
theorem dX9_may_11 : decode cX9_may 11 = .ok (.invokevirtual 107, 3) := by decide +kernel
theorem dX9_may_14 : decode cX9_may 14 = .ok (.ireturn, 1) := by decide +kernel
theorem dX9_may_15 : decode cX9_may 15 = .ok (.aload_n 0, 1) := by decide +kernel
theorem dX9_may_16 : decode cX9_may 16 = .ok (.invokevirtual 239, 3) := by decide +kernel
theorem dX9_may_19 : decode cX9_may 19 = .ok (.istore_n 2, 1) := by decide +kernel
theorem dX9_may_20 : decode cX9_may 20 = .ok (.iconst 0, 1) := by decide +kernel
theorem dX9_may_21 : decode cX9_may 21 = .ok (.istore_n 3, 1) := by decide +kernel
theorem dX9_may_22 : decode cX9_may 22 = .ok (.aload_n 0, 1) := by decide +kernel
theorem dX9_may_23 : decode cX9_may 23 = .ok (.invokevirtual 99, 3) := by decide +kernel
theorem dX9_may_26 : decode cX9_may 26 = .ok (.istore 4, 2) := by decide +kernel
theorem dX9_may_28 : decode cX9_may 28 = .ok (.iconst 0, 1) := by decide +kernel
theorem dX9_may_29 : decode cX9_may 29 = .ok (.istore 5, 2) := by decide +kernel
theorem dX9_may_31 : decode cX9_may 31 = .ok (.iload 5, 2) := by decide +kernel
theorem dX9_may_33 : decode cX9_may 33 = .ok (.iload_n 2, 1) := by decide +kernel
theorem dX9_may_34 : decode cX9_may 34 = .ok (.if_icmp .ge 31, 3) := by decide +kernel
theorem dX9_may_37 : decode cX9_may 37 = .ok (.iload_n 3, 1) := by decide +kernel
theorem dX9_may_38 : decode cX9_may 38 = .ok (.aload_n 0, 1) := by decide +kernel
theorem dX9_may_39 : decode cX9_may 39 = .ok (.getfield 81, 3) := by decide +kernel
theorem dX9_may_42 : decode cX9_may 42 = .ok (.iload 5, 2) := by decide +kernel
theorem dX9_may_44 : decode cX9_may 44 = .ok (.iaload, 1) := by decide +kernel
theorem dX9_may_45 : decode cX9_may 45 = .ok (.ior, 1) := by decide +kernel
theorem dX9_may_46 : decode cX9_may 46 = .ok (.istore_n 3, 1) := by decide +kernel
theorem dX9_may_47 : decode cX9_may 47 = .ok (.iload 4, 2) := by decide +kernel
theorem dX9_may_49 : decode cX9_may 49 = .ok (.aload_n 0, 1) := by decide +kernel
theorem dX9_may_50 : decode cX9_may 50 = .ok (.getfield 81, 3) := by decide +kernel
theorem dX9_may_53 : decode cX9_may 53 = .ok (.iload 5, 2) := by decide +kernel
theorem dX9_may_55 : decode cX9_may 55 = .ok (.iaload, 1) := by decide +kernel
theorem dX9_may_56 : decode cX9_may 56 = .ok (.iand, 1) := by decide +kernel
theorem dX9_may_57 : decode cX9_may 57 = .ok (.istore 4, 2) := by decide +kernel
theorem dX9_may_59 : decode cX9_may 59 = .ok (.iinc 5 1, 3) := by decide +kernel
theorem dX9_may_62 : decode cX9_may 62 = .ok (.goto (-31), 3) := by decide +kernel
theorem dX9_may_65 : decode cX9_may 65 = .ok (.iload_n 1, 1) := by decide +kernel
theorem dX9_may_66 : decode cX9_may 66 = .ok (.ifCond .ne 7, 3) := by decide +kernel
theorem dX9_may_69 : decode cX9_may 69 = .ok (.iload_n 3, 1) := by decide +kernel
theorem dX9_may_70 : decode cX9_may 70 = .ok (.goto 13, 3) := by decide +kernel
theorem dX9_may_73 : decode cX9_may 73 = .ok (.iload_n 2, 1) := by decide +kernel
theorem dX9_may_74 : decode cX9_may 74 = .ok (.ifCond .ne 7, 3) := by decide +kernel
theorem dX9_may_77 : decode cX9_may 77 = .ok (.iconst 0, 1) := by decide +kernel
theorem dX9_may_78 : decode cX9_may 78 = .ok (.goto 5, 3) := by decide +kernel
theorem dX9_may_81 : decode cX9_may 81 = .ok (.iload 4, 2) := by decide +kernel
theorem dX9_may_83 : decode cX9_may 83 = .ok (.ireturn, 1) := by decide +kernel
theorem dX9_likely_0 : decode cX9_likely 0 = .ok (.aload_n 0, 1) := by decide +kernel
theorem dX9_likely_1 : decode cX9_likely 1 = .ok (.invokevirtual 239, 3) := by decide +kernel
theorem dX9_likely_4 : decode cX9_likely 4 = .ok (.istore_n 2, 1) := by decide +kernel
theorem dX9_likely_5 : decode cX9_likely 5 = .ok (.iconst 0, 1) := by decide +kernel
theorem dX9_likely_6 : decode cX9_likely 6 = .ok (.istore_n 3, 1) := by decide +kernel
theorem dX9_likely_7 : decode cX9_likely 7 = .ok (.iconst 0, 1) := by decide +kernel
theorem dX9_likely_8 : decode cX9_likely 8 = .ok (.istore 4, 2) := by decide +kernel
theorem dX9_likely_10 : decode cX9_likely 10 = .ok (.iconst 0, 1) := by decide +kernel
theorem dX9_likely_11 : decode cX9_likely 11 = .ok (.istore 5, 2) := by decide +kernel
theorem dX9_likely_13 : decode cX9_likely 13 = .ok (.iload 5, 2) := by decide +kernel
theorem dX9_likely_15 : decode cX9_likely 15 = .ok (.iload_n 2, 1) := by decide +kernel
theorem dX9_likely_16 : decode cX9_likely 16 = .ok (.if_icmp .ge 49, 3) := by decide +kernel
theorem dX9_likely_19 : decode cX9_likely 19 = .ok (.aload_n 0, 1) := by decide +kernel
theorem dX9_likely_20 : decode cX9_likely 20 = .ok (.aload_n 0, 1) := by decide +kernel
theorem dX9_likely_21 : decode cX9_likely 21 = .ok (.getfield 81, 3) := by decide +kernel
theorem dX9_likely_24 : decode cX9_likely 24 = .ok (.iload 5, 2) := by decide +kernel
theorem dX9_likely_26 : decode cX9_likely 26 = .ok (.iaload, 1) := by decide +kernel
theorem dX9_likely_27 : decode cX9_likely 27 = .ok (.invokevirtual 245, 3) := by decide +kernel
theorem dX9_likely_30 : decode cX9_likely 30 = .ok (.istore 6, 2) := by decide +kernel
theorem dX9_likely_32 : decode cX9_likely 32 = .ok (.iload 4, 2) := by decide +kernel
theorem dX9_likely_34 : decode cX9_likely 34 = .ok (.iload 6, 2) := by decide +kernel
theorem dX9_likely_36 : decode cX9_likely 36 = .ok (.iadd, 1) := by decide +kernel
theorem dX9_likely_37 : decode cX9_likely 37 = .ok (.istore 4, 2) := by decide +kernel
theorem dX9_likely_39 : decode cX9_likely 39 = .ok (.aload_n 0, 1) := by decide +kernel
theorem dX9_likely_40 : decode cX9_likely 40 = .ok (.aload_n 0, 1) := by decide +kernel
theorem dX9_likely_41 : decode cX9_likely 41 = .ok (.getfield 81, 3) := by decide +kernel
theorem dX9_likely_44 : decode cX9_likely 44 = .ok (.iload 5, 2) := by decide +kernel
theorem dX9_likely_46 : decode cX9_likely 46 = .ok (.iaload, 1) := by decide +kernel
theorem dX9_likely_47 : decode cX9_likely 47 = .ok (.iload_n 1, 1) := by decide +kernel
theorem dX9_likely_48 : decode cX9_likely 48 = .ok (.invokevirtual 214, 3) := by decide +kernel
theorem dX9_likely_51 : decode cX9_likely 51 = .ok (.ifCond .eq 8, 3) := by decide +kernel
theorem dX9_likely_54 : decode cX9_likely 54 = .ok (.iload_n 3, 1) := by decide +kernel
theorem dX9_likely_55 : decode cX9_likely 55 = .ok (.iload 6, 2) := by decide +kernel
theorem dX9_likely_57 : decode cX9_likely 57 = .ok (.iadd, 1) := by decide +kernel
theorem dX9_likely_58 : decode cX9_likely 58 = .ok (.istore_n 3, 1) := by decide +kernel
theorem dX9_likely_59 : decode cX9_likely 59 = .ok (.iinc 5 1, 3) := by decide +kernel
theorem dX9_likely_62 : decode cX9_likely 62 = .ok (.goto (-49), 3) := by decide +kernel
theorem dX9_likely_65 : decode cX9_likely 65 = .ok (.iload 4, 2) := by decide +kernel
theorem dX9_likely_67 : decode cX9_likely 67 = .ok (.ifCond .ne 7, 3) := by decide +kernel
theorem dX9_likely_70 : decode cX9_likely 70 = .ok (.iconst 0, 1) := by decide +kernel
theorem dX9_likely_71 : decode cX9_likely 71 = .ok (.goto 11, 3) := by decide +kernel
theorem dX9_likely_74 : decode cX9_likely 74 = .ok (.sipush 1000, 3) := by decide +kernel
theorem dX9_likely_77 : decode cX9_likely 77 = .ok (.iload_n 3, 1) := by decide +kernel
theorem dX9_likely_78 : decode cX9_likely 78 = .ok (.imul, 1) := by decide +kernel
theorem dX9_likely_79 : decode cX9_likely 79 = .ok (.iload 4, 2) := by decide +kernel
theorem dX9_likely_81 : decode cX9_likely 81 = .ok (.idiv, 1) := by decide +kernel
theorem dX9_likely_82 : decode cX9_likely 82 = .ok (.ireturn, 1) := by decide +kernel
theorem dX9_likeliest_0 : decode cX9_likeliest 0 = .ok (.aload_n 0, 1) := by decide +kernel
theorem dX9_likeliest_1 : decode cX9_likeliest 1 = .ok (.invokevirtual 239, 3) := by decide +kernel
theorem dX9_likeliest_4 : decode cX9_likeliest 4 = .ok (.istore_n 1, 1) := by decide +kernel
theorem dX9_likeliest_5 : decode cX9_likeliest 5 = .ok (.iload_n 1, 1) := by decide +kernel
theorem dX9_likeliest_6 : decode cX9_likeliest 6 = .ok (.ifCond .ne 10, 3) := by decide +kernel
theorem dX9_likeliest_9 : decode cX9_likeliest 9 = .ok (.aload_n 0, 1) := by decide +kernel
theorem dX9_likeliest_10 : decode cX9_likeliest 10 = .ok (.bipush (-5), 2) := by decide +kernel
theorem dX9_likeliest_12 : decode cX9_likeliest 12 = .ok (.invokevirtual 107, 3) := by decide +kernel
theorem dX9_likeliest_15 : decode cX9_likeliest 15 = .ok (.ireturn, 1) := by decide +kernel
theorem dX9_likeliest_16 : decode cX9_likeliest 16 = .ok (.aload_n 0, 1) := by decide +kernel
theorem dX9_likeliest_17 : decode cX9_likeliest 17 = .ok (.getfield 81, 3) := by decide +kernel
theorem dX9_likeliest_20 : decode cX9_likeliest 20 = .ok (.iconst 0, 1) := by decide +kernel
theorem dX9_likeliest_21 : decode cX9_likeliest 21 = .ok (.iaload, 1) := by decide +kernel
theorem dX9_likeliest_22 : decode cX9_likeliest 22 = .ok (.istore_n 2, 1) := by decide +kernel
theorem dX9_likeliest_23 : decode cX9_likeliest 23 = .ok (.iconst 1, 1) := by decide +kernel
theorem dX9_likeliest_24 : decode cX9_likeliest 24 = .ok (.istore_n 3, 1) := by decide +kernel
theorem dX9_likeliest_25 : decode cX9_likeliest 25 = .ok (.iload_n 3, 1) := by decide +kernel
theorem dX9_likeliest_26 : decode cX9_likeliest 26 = .ok (.iload_n 1, 1) := by decide +kernel
theorem dX9_likeliest_27 : decode cX9_likeliest 27 = .ok (.if_icmp .ge 34, 3) := by decide +kernel
theorem dX9_likeliest_30 : decode cX9_likeliest 30 = .ok (.aload_n 0, 1) := by decide +kernel
theorem dX9_likeliest_31 : decode cX9_likeliest 31 = .ok (.aload_n 0, 1) := by decide +kernel
theorem dX9_likeliest_32 : decode cX9_likeliest 32 = .ok (.getfield 81, 3) := by decide +kernel
theorem dX9_likeliest_35 : decode cX9_likeliest 35 = .ok (.iload_n 3, 1) := by decide +kernel
theorem dX9_likeliest_36 : decode cX9_likeliest 36 = .ok (.iaload, 1) := by decide +kernel
theorem dX9_likeliest_37 : decode cX9_likeliest 37 = .ok (.invokevirtual 245, 3) := by decide +kernel
theorem dX9_likeliest_40 : decode cX9_likeliest 40 = .ok (.aload_n 0, 1) := by decide +kernel
theorem dX9_likeliest_41 : decode cX9_likeliest 41 = .ok (.iload_n 2, 1) := by decide +kernel
theorem dX9_likeliest_42 : decode cX9_likeliest 42 = .ok (.invokevirtual 245, 3) := by decide +kernel
theorem dX9_likeliest_45 : decode cX9_likeliest 45 = .ok (.if_icmp .le 10, 3) := by decide +kernel
theorem dX9_likeliest_48 : decode cX9_likeliest 48 = .ok (.aload_n 0, 1) := by decide +kernel
theorem dX9_likeliest_49 : decode cX9_likeliest 49 = .ok (.getfield 81, 3) := by decide +kernel
theorem dX9_likeliest_52 : decode cX9_likeliest 52 = .ok (.iload_n 3, 1) := by decide +kernel
theorem dX9_likeliest_53 : decode cX9_likeliest 53 = .ok (.iaload, 1) := by decide +kernel
theorem dX9_likeliest_54 : decode cX9_likeliest 54 = .ok (.istore_n 2, 1) := by decide +kernel
theorem dX9_likeliest_55 : decode cX9_likeliest 55 = .ok (.iinc 3 1, 3) := by decide +kernel
theorem dX9_likeliest_58 : decode cX9_likeliest 58 = .ok (.goto (-33), 3) := by decide +kernel
theorem dX9_likeliest_61 : decode cX9_likeliest 61 = .ok (.iload_n 2, 1) := by decide +kernel
theorem dX9_likeliest_62 : decode cX9_likeliest 62 = .ok (.ireturn, 1) := by decide +kernel
theorem dX9_isLawful_0 : decode cX9_isLawful 0 = .ok (.aload_n 0, 1) := by decide +kernel
theorem dX9_isLawful_1 : decode cX9_isLawful 1 = .ok (.iload_n 1, 1) := by decide +kernel
theorem dX9_isLawful_2 : decode cX9_isLawful 2 = .ok (.invokevirtual 172, 3) := by decide +kernel
theorem dX9_isLawful_5 : decode cX9_isLawful 5 = .ok (.ifCond .eq 15, 3) := by decide +kernel
theorem dX9_isLawful_8 : decode cX9_isLawful 8 = .ok (.aload_n 0, 1) := by decide +kernel
theorem dX9_isLawful_9 : decode cX9_isLawful 9 = .ok (.iload_n 1, 1) := by decide +kernel
theorem dX9_isLawful_10 : decode cX9_isLawful 10 = .ok (.invokevirtual 221, 3) := by decide +kernel
theorem dX9_isLawful_13 : decode cX9_isLawful 13 = .ok (.aload_n 0, 1) := by decide +kernel
theorem dX9_isLawful_14 : decode cX9_isLawful 14 = .ok (.getfield 13, 3) := by decide +kernel
theorem dX9_isLawful_17 : decode cX9_isLawful 17 = .ok (.if_icmp .ge 5, 3) := by decide +kernel
theorem dX9_isLawful_20 : decode cX9_isLawful 20 = .ok (.iconst 0, 1) := by decide +kernel
theorem dX9_isLawful_21 : decode cX9_isLawful 21 = .ok (.ireturn, 1) := by decide +kernel
theorem dX9_isLawful_22 : decode cX9_isLawful 22 = .ok (.bipush 8, 2) := by decide +kernel
theorem dX9_isLawful_24 : decode cX9_isLawful 24 = .ok (.istore_n 2, 1) := by decide +kernel
theorem dX9_isLawful_25 : decode cX9_isLawful 25 = .ok (.iconst (-1), 1) := by decide +kernel
theorem dX9_isLawful_26 : decode cX9_isLawful 26 = .ok (.istore_n 3, 1) := by decide +kernel
theorem dX9_isLawful_27 : decode cX9_isLawful 27 = .ok (.iconst 0, 1) := by decide +kernel
theorem dX9_isLawful_28 : decode cX9_isLawful 28 = .ok (.istore 4, 2) := by decide +kernel
theorem dX9_isLawful_30 : decode cX9_isLawful 30 = .ok (.iload 4, 2) := by decide +kernel
theorem dX9_isLawful_32 : decode cX9_isLawful 32 = .ok (.aload_n 0, 1) := by decide +kernel
theorem dX9_isLawful_33 : decode cX9_isLawful 33 = .ok (.getfield 96, 3) := by decide +kernel
theorem dX9_isLawful_36 : decode cX9_isLawful 36 = .ok (.if_icmp .ge 68, 3) := by decide +kernel
theorem dX9_isLawful_39 : decode cX9_isLawful 39 = .ok (.aload_n 0, 1) := by decide +kernel
theorem dX9_isLawful_40 : decode cX9_isLawful 40 = .ok (.iload_n 1, 1) := by decide +kernel
theorem dX9_isLawful_41 : decode cX9_isLawful 41 = .ok (.iload 4, 2) := by decide +kernel
theorem dX9_isLawful_43 : decode cX9_isLawful 43 = .ok (.invokevirtual 214, 3) := by decide +kernel
theorem dX9_isLawful_46 : decode cX9_isLawful 46 = .ok (.ifCond .ne 6, 3) := by decide +kernel
theorem dX9_isLawful_49 : decode cX9_isLawful 49 = .ok (.goto 49, 3) := by decide +kernel
theorem dX9_isLawful_52 : decode cX9_isLawful 52 = .ok (.aload_n 0, 1) := by decide +kernel
theorem dX9_isLawful_53 : decode cX9_isLawful 53 = .ok (.getfield 35, 3) := by decide +kernel
theorem dX9_isLawful_56 : decode cX9_isLawful 56 = .ok (.iload 4, 2) := by decide +kernel
theorem dX9_isLawful_58 : decode cX9_isLawful 58 = .ok (.iaload, 1) := by decide +kernel
theorem dX9_isLawful_59 : decode cX9_isLawful 59 = .ok (.iload_n 2, 1) := by decide +kernel
theorem dX9_isLawful_60 : decode cX9_isLawful 60 = .ok (.if_icmp .ge 13, 3) := by decide +kernel
theorem dX9_isLawful_63 : decode cX9_isLawful 63 = .ok (.aload_n 0, 1) := by decide +kernel
theorem dX9_isLawful_64 : decode cX9_isLawful 64 = .ok (.getfield 35, 3) := by decide +kernel
theorem dX9_isLawful_67 : decode cX9_isLawful 67 = .ok (.iload 4, 2) := by decide +kernel
theorem dX9_isLawful_69 : decode cX9_isLawful 69 = .ok (.iaload, 1) := by decide +kernel
theorem dX9_isLawful_70 : decode cX9_isLawful 70 = .ok (.goto 4, 3) := by decide +kernel
theorem dX9_isLawful_73 : decode cX9_isLawful 73 = .ok (.iload_n 2, 1) := by decide +kernel
theorem dX9_isLawful_74 : decode cX9_isLawful 74 = .ok (.istore_n 2, 1) := by decide +kernel
theorem dX9_isLawful_75 : decode cX9_isLawful 75 = .ok (.aload_n 0, 1) := by decide +kernel
theorem dX9_isLawful_76 : decode cX9_isLawful 76 = .ok (.getfield 35, 3) := by decide +kernel
theorem dX9_isLawful_79 : decode cX9_isLawful 79 = .ok (.iload 4, 2) := by decide +kernel
theorem dX9_isLawful_81 : decode cX9_isLawful 81 = .ok (.iaload, 1) := by decide +kernel
theorem dX9_isLawful_82 : decode cX9_isLawful 82 = .ok (.iload_n 3, 1) := by decide +kernel
theorem dX9_isLawful_83 : decode cX9_isLawful 83 = .ok (.if_icmp .le 13, 3) := by decide +kernel
theorem dX9_isLawful_86 : decode cX9_isLawful 86 = .ok (.aload_n 0, 1) := by decide +kernel
theorem dX9_isLawful_87 : decode cX9_isLawful 87 = .ok (.getfield 35, 3) := by decide +kernel
theorem dX9_isLawful_90 : decode cX9_isLawful 90 = .ok (.iload 4, 2) := by decide +kernel
theorem dX9_isLawful_92 : decode cX9_isLawful 92 = .ok (.iaload, 1) := by decide +kernel
theorem dX9_isLawful_93 : decode cX9_isLawful 93 = .ok (.goto 4, 3) := by decide +kernel
theorem dX9_isLawful_96 : decode cX9_isLawful 96 = .ok (.iload_n 3, 1) := by decide +kernel
theorem dX9_isLawful_97 : decode cX9_isLawful 97 = .ok (.istore_n 3, 1) := by decide +kernel
theorem dX9_isLawful_98 : decode cX9_isLawful 98 = .ok (.iinc 4 1, 3) := by decide +kernel
theorem dX9_isLawful_101 : decode cX9_isLawful 101 = .ok (.goto (-71), 3) := by decide +kernel
theorem dX9_isLawful_104 : decode cX9_isLawful 104 = .ok (.aload_n 0, 1) := by decide +kernel
theorem dX9_isLawful_105 : decode cX9_isLawful 105 = .ok (.getfield 136, 3) := by decide +kernel
theorem dX9_isLawful_108 : decode cX9_isLawful 108 = .ok (.ifCond .eq 16, 3) := by decide +kernel
theorem dX9_isLawful_111 : decode cX9_isLawful 111 = .ok (.iload_n 3, 1) := by decide +kernel
theorem dX9_isLawful_112 : decode cX9_isLawful 112 = .ok (.iload_n 2, 1) := by decide +kernel
theorem dX9_isLawful_113 : decode cX9_isLawful 113 = .ok (.isub, 1) := by decide +kernel
theorem dX9_isLawful_114 : decode cX9_isLawful 114 = .ok (.iconst 1, 1) := by decide +kernel
theorem dX9_isLawful_115 : decode cX9_isLawful 115 = .ok (.iadd, 1) := by decide +kernel
theorem dX9_isLawful_116 : decode cX9_isLawful 116 = .ok (.aload_n 0, 1) := by decide +kernel
theorem dX9_isLawful_117 : decode cX9_isLawful 117 = .ok (.iload_n 1, 1) := by decide +kernel
theorem dX9_isLawful_118 : decode cX9_isLawful 118 = .ok (.invokevirtual 221, 3) := by decide +kernel
theorem dX9_isLawful_121 : decode cX9_isLawful 121 = .ok (.if_icmp .ne 7, 3) := by decide +kernel
theorem dX9_isLawful_124 : decode cX9_isLawful 124 = .ok (.iconst 1, 1) := by decide +kernel
theorem dX9_isLawful_125 : decode cX9_isLawful 125 = .ok (.goto 4, 3) := by decide +kernel
theorem dX9_isLawful_128 : decode cX9_isLawful 128 = .ok (.iconst 0, 1) := by decide +kernel
theorem dX9_isLawful_129 : decode cX9_isLawful 129 = .ok (.ireturn, 1) := by decide +kernel
theorem dX9_lawful_0 : decode cX9_lawful 0 = .ok (.aload_n 0, 1) := by decide +kernel
theorem dX9_lawful_1 : decode cX9_lawful 1 = .ok (.iload_n 1, 1) := by decide +kernel
theorem dX9_lawful_2 : decode cX9_lawful 2 = .ok (.invokevirtual 248, 3) := by decide +kernel
theorem dX9_lawful_5 : decode cX9_lawful 5 = .ok (.ifCond .eq 7, 3) := by decide +kernel
theorem dX9_lawful_8 : decode cX9_lawful 8 = .ok (.iconst 1, 1) := by decide +kernel
theorem dX9_lawful_9 : decode cX9_lawful 9 = .ok (.goto 4, 3) := by decide +kernel
theorem dX9_lawful_12 : decode cX9_lawful 12 = .ok (.iconst 0, 1) := by decide +kernel
theorem dX9_lawful_13 : decode cX9_lawful 13 = .ok (.ireturn, 1) := by decide +kernel
theorem dX9_wrongOf_0 : decode cX9_wrongOf 0 = .ok (.iconst 0, 1) := by decide +kernel
theorem dX9_wrongOf_1 : decode cX9_wrongOf 1 = .ok (.istore 4, 2) := by decide +kernel
theorem dX9_wrongOf_3 : decode cX9_wrongOf 3 = .ok (.iconst 0, 1) := by decide +kernel
theorem dX9_wrongOf_4 : decode cX9_wrongOf 4 = .ok (.istore 5, 2) := by decide +kernel
theorem dX9_wrongOf_6 : decode cX9_wrongOf 6 = .ok (.iload 5, 2) := by decide +kernel
theorem dX9_wrongOf_8 : decode cX9_wrongOf 8 = .ok (.iload_n 1, 1) := by decide +kernel
theorem dX9_wrongOf_9 : decode cX9_wrongOf 9 = .ok (.if_icmp .ge 28, 3) := by decide +kernel
theorem dX9_wrongOf_12 : decode cX9_wrongOf 12 = .ok (.iload 4, 2) := by decide +kernel
theorem dX9_wrongOf_14 : decode cX9_wrongOf 14 = .ok (.aload_n 0, 1) := by decide +kernel
theorem dX9_wrongOf_15 : decode cX9_wrongOf 15 = .ok (.iload_n 3, 1) := by decide +kernel
theorem dX9_wrongOf_16 : decode cX9_wrongOf 16 = .ok (.aload_n 0, 1) := by decide +kernel
theorem dX9_wrongOf_17 : decode cX9_wrongOf 17 = .ok (.getfield 81, 3) := by decide +kernel
theorem dX9_wrongOf_20 : decode cX9_wrongOf 20 = .ok (.iload_n 2, 1) := by decide +kernel
theorem dX9_wrongOf_21 : decode cX9_wrongOf 21 = .ok (.iload 5, 2) := by decide +kernel
theorem dX9_wrongOf_23 : decode cX9_wrongOf 23 = .ok (.iadd, 1) := by decide +kernel
theorem dX9_wrongOf_24 : decode cX9_wrongOf 24 = .ok (.iaload, 1) := by decide +kernel
theorem dX9_wrongOf_25 : decode cX9_wrongOf 25 = .ok (.invokevirtual 230, 3) := by decide +kernel
theorem dX9_wrongOf_28 : decode cX9_wrongOf 28 = .ok (.iadd, 1) := by decide +kernel
theorem dX9_wrongOf_29 : decode cX9_wrongOf 29 = .ok (.istore 4, 2) := by decide +kernel
theorem dX9_wrongOf_31 : decode cX9_wrongOf 31 = .ok (.iinc 5 1, 3) := by decide +kernel
theorem dX9_wrongOf_34 : decode cX9_wrongOf 34 = .ok (.goto (-28), 3) := by decide +kernel
theorem dX9_wrongOf_37 : decode cX9_wrongOf 37 = .ok (.iload 4, 2) := by decide +kernel
theorem dX9_wrongOf_39 : decode cX9_wrongOf 39 = .ok (.ireturn, 1) := by decide +kernel
theorem dX9_parts_0 : decode cX9_parts 0 = .ok (.aload_n 0, 1) := by decide +kernel
theorem dX9_parts_1 : decode cX9_parts 1 = .ok (.iload_n 2, 1) := by decide +kernel
theorem dX9_parts_2 : decode cX9_parts 2 = .ok (.invokevirtual 175, 3) := by decide +kernel
theorem dX9_parts_5 : decode cX9_parts 5 = .ok (.ifCond .ne 10, 3) := by decide +kernel
theorem dX9_parts_8 : decode cX9_parts 8 = .ok (.aload_n 0, 1) := by decide +kernel
theorem dX9_parts_9 : decode cX9_parts 9 = .ok (.bipush (-5), 2) := by decide +kernel
theorem dX9_parts_11 : decode cX9_parts 11 = .ok (.invokevirtual 107, 3) := by decide +kernel
theorem dX9_parts_14 : decode cX9_parts 14 = .ok (.ireturn, 1) := by decide +kernel
theorem dX9_parts_15 : decode cX9_parts 15 = .ok (.aload_n 0, 1) := by decide +kernel
theorem dX9_parts_16 : decode cX9_parts 16 = .ok (.iload_n 1, 1) := by decide +kernel
theorem dX9_parts_17 : decode cX9_parts 17 = .ok (.invokevirtual 172, 3) := by decide +kernel
theorem dX9_parts_20 : decode cX9_parts 20 = .ok (.ifCond .ne 10, 3) := by decide +kernel
theorem dX9_parts_23 : decode cX9_parts 23 = .ok (.aload_n 0, 1) := by decide +kernel
theorem dX9_parts_24 : decode cX9_parts 24 = .ok (.bipush (-6), 2) := by decide +kernel
theorem dX9_parts_26 : decode cX9_parts 26 = .ok (.invokevirtual 107, 3) := by decide +kernel
theorem dX9_parts_29 : decode cX9_parts 29 = .ok (.ireturn, 1) := by decide +kernel
theorem dX9_parts_30 : decode cX9_parts 30 = .ok (.aload_n 0, 1) := by decide +kernel
theorem dX9_parts_31 : decode cX9_parts 31 = .ok (.invokevirtual 239, 3) := by decide +kernel
theorem dX9_parts_34 : decode cX9_parts 34 = .ok (.istore_n 3, 1) := by decide +kernel
theorem dX9_parts_35 : decode cX9_parts 35 = .ok (.aload_n 0, 1) := by decide +kernel
theorem dX9_parts_36 : decode cX9_parts 36 = .ok (.iload_n 3, 1) := by decide +kernel
theorem dX9_parts_37 : decode cX9_parts 37 = .ok (.iconst 0, 1) := by decide +kernel
theorem dX9_parts_38 : decode cX9_parts 38 = .ok (.iload_n 1, 1) := by decide +kernel
theorem dX9_parts_39 : decode cX9_parts 39 = .ok (.invokevirtual 251, 3) := by decide +kernel
theorem dX9_parts_42 : decode cX9_parts 42 = .ok (.istore 4, 2) := by decide +kernel
theorem dX9_parts_44 : decode cX9_parts 44 = .ok (.iload_n 2, 1) := by decide +kernel
theorem dX9_parts_45 : decode cX9_parts 45 = .ok (.ifCond .ne 8, 3) := by decide +kernel
theorem dX9_parts_48 : decode cX9_parts 48 = .ok (.iload 4, 2) := by decide +kernel
theorem dX9_parts_50 : decode cX9_parts 50 = .ok (.goto 21, 3) := by decide +kernel
theorem dX9_parts_53 : decode cX9_parts 53 = .ok (.iload 4, 2) := by decide +kernel
theorem dX9_parts_55 : decode cX9_parts 55 = .ok (.iload_n 3, 1) := by decide +kernel
theorem dX9_parts_56 : decode cX9_parts 56 = .ok (.iload 4, 2) := by decide +kernel
theorem dX9_parts_58 : decode cX9_parts 58 = .ok (.isub, 1) := by decide +kernel
theorem dX9_parts_59 : decode cX9_parts 59 = .ok (.if_icmp .le 8, 3) := by decide +kernel
theorem dX9_parts_62 : decode cX9_parts 62 = .ok (.iload 4, 2) := by decide +kernel
theorem dX9_parts_64 : decode cX9_parts 64 = .ok (.goto 7, 3) := by decide +kernel
theorem dX9_parts_67 : decode cX9_parts 67 = .ok (.iload_n 3, 1) := by decide +kernel
theorem dX9_parts_68 : decode cX9_parts 68 = .ok (.iload 4, 2) := by decide +kernel
theorem dX9_parts_70 : decode cX9_parts 70 = .ok (.isub, 1) := by decide +kernel
theorem dX9_parts_71 : decode cX9_parts 71 = .ok (.ireturn, 1) := by decide +kernel
theorem dX9_tables_0 : decode cX9_tables 0 = .ok (.iconst 1, 1) := by decide +kernel
theorem dX9_tables_1 : decode cX9_tables 1 = .ok (.istore_n 2, 1) := by decide +kernel
theorem dX9_tables_2 : decode cX9_tables 2 = .ok (.iload_n 2, 1) := by decide +kernel
theorem dX9_tables_3 : decode cX9_tables 3 = .ok (.aload_n 0, 1) := by decide +kernel
theorem dX9_tables_4 : decode cX9_tables 4 = .ok (.invokevirtual 99, 3) := by decide +kernel
theorem dX9_tables_7 : decode cX9_tables 7 = .ok (.if_icmp .gt 56, 3) := by decide +kernel
theorem dX9_tables_10 : decode cX9_tables 10 = .ok (.iconst 0, 1) := by decide +kernel
theorem dX9_tables_11 : decode cX9_tables 11 = .ok (.istore_n 3, 1) := by decide +kernel
theorem dX9_tables_12 : decode cX9_tables 12 = .ok (.iload_n 3, 1) := by decide +kernel
theorem dX9_tables_13 : decode cX9_tables 13 = .ok (.iload_n 1, 1) := by decide +kernel
theorem dX9_tables_14 : decode cX9_tables 14 = .ok (.if_icmp .ge 43, 3) := by decide +kernel
theorem dX9_tables_17 : decode cX9_tables 17 = .ok (.aload_n 0, 1) := by decide +kernel
theorem dX9_tables_18 : decode cX9_tables 18 = .ok (.getfield 84, 3) := by decide +kernel
theorem dX9_tables_21 : decode cX9_tables 21 = .ok (.bipush 92, 2) := by decide +kernel
theorem dX9_tables_23 : decode cX9_tables 23 = .ok (.iload_n 2, 1) := by decide +kernel
theorem dX9_tables_24 : decode cX9_tables 24 = .ok (.imul, 1) := by decide +kernel
theorem dX9_tables_25 : decode cX9_tables 25 = .ok (.iload_n 3, 1) := by decide +kernel
theorem dX9_tables_26 : decode cX9_tables 26 = .ok (.iadd, 1) := by decide +kernel
theorem dX9_tables_27 : decode cX9_tables 27 = .ok (.aload_n 0, 1) := by decide +kernel
theorem dX9_tables_28 : decode cX9_tables 28 = .ok (.iload_n 2, 1) := by decide +kernel
theorem dX9_tables_29 : decode cX9_tables 29 = .ok (.invokevirtual 248, 3) := by decide +kernel
theorem dX9_tables_32 : decode cX9_tables 32 = .ok (.ifCond .eq 17, 3) := by decide +kernel
theorem dX9_tables_35 : decode cX9_tables 35 = .ok (.aload_n 0, 1) := by decide +kernel
theorem dX9_tables_36 : decode cX9_tables 36 = .ok (.iload_n 2, 1) := by decide +kernel
theorem dX9_tables_37 : decode cX9_tables 37 = .ok (.aload_n 0, 1) := by decide +kernel
theorem dX9_tables_38 : decode cX9_tables 38 = .ok (.getfield 81, 3) := by decide +kernel
theorem dX9_tables_41 : decode cX9_tables 41 = .ok (.iload_n 3, 1) := by decide +kernel
theorem dX9_tables_42 : decode cX9_tables 42 = .ok (.iaload, 1) := by decide +kernel
theorem dX9_tables_43 : decode cX9_tables 43 = .ok (.invokevirtual 230, 3) := by decide +kernel
theorem dX9_tables_46 : decode cX9_tables 46 = .ok (.goto 4, 3) := by decide +kernel
theorem dX9_tables_49 : decode cX9_tables 49 = .ok (.iconst (-1), 1) := by decide +kernel
theorem dX9_tables_50 : decode cX9_tables 50 = .ok (.iastore, 1) := by decide +kernel
theorem dX9_tables_51 : decode cX9_tables 51 = .ok (.iinc 3 1, 3) := by decide +kernel
theorem dX9_tables_54 : decode cX9_tables 54 = .ok (.goto (-42), 3) := by decide +kernel
theorem dX9_tables_57 : decode cX9_tables 57 = .ok (.iinc 2 1, 3) := by decide +kernel
theorem dX9_tables_60 : decode cX9_tables 60 = .ok (.goto (-58), 3) := by decide +kernel
theorem dX9_tables_63 : decode cX9_tables 63 = .ok (.return_, 1) := by decide +kernel
theorem dX9_nextOf_0 : decode cX9_nextOf 0 = .ok (.iconst (-1), 1) := by decide +kernel
theorem dX9_nextOf_1 : decode cX9_nextOf 1 = .ok (.istore_n 3, 1) := by decide +kernel
theorem dX9_nextOf_2 : decode cX9_nextOf 2 = .ok (.iload_n 2, 1) := by decide +kernel
theorem dX9_nextOf_3 : decode cX9_nextOf 3 = .ok (.istore 4, 2) := by decide +kernel
theorem dX9_nextOf_5 : decode cX9_nextOf 5 = .ok (.iconst 1, 1) := by decide +kernel
theorem dX9_nextOf_6 : decode cX9_nextOf 6 = .ok (.istore 5, 2) := by decide +kernel
theorem dX9_nextOf_8 : decode cX9_nextOf 8 = .ok (.iload 5, 2) := by decide +kernel
theorem dX9_nextOf_10 : decode cX9_nextOf 10 = .ok (.aload_n 0, 1) := by decide +kernel
theorem dX9_nextOf_11 : decode cX9_nextOf 11 = .ok (.invokevirtual 99, 3) := by decide +kernel
theorem dX9_nextOf_14 : decode cX9_nextOf 14 = .ok (.if_icmp .gt 110, 3) := by decide +kernel
theorem dX9_nextOf_17 : decode cX9_nextOf 17 = .ok (.iload_n 2, 1) := by decide +kernel
theorem dX9_nextOf_18 : decode cX9_nextOf 18 = .ok (.ifCond .eq 100, 3) := by decide +kernel
theorem dX9_nextOf_21 : decode cX9_nextOf 21 = .ok (.aload_n 0, 1) := by decide +kernel
theorem dX9_nextOf_22 : decode cX9_nextOf 22 = .ok (.getfield 84, 3) := by decide +kernel
theorem dX9_nextOf_25 : decode cX9_nextOf 25 = .ok (.bipush 92, 2) := by decide +kernel
theorem dX9_nextOf_27 : decode cX9_nextOf 27 = .ok (.iload 5, 2) := by decide +kernel
theorem dX9_nextOf_29 : decode cX9_nextOf 29 = .ok (.imul, 1) := by decide +kernel
theorem dX9_nextOf_30 : decode cX9_nextOf 30 = .ok (.iaload, 1) := by decide +kernel
theorem dX9_nextOf_31 : decode cX9_nextOf 31 = .ok (.iconst (-1), 1) := by decide +kernel
theorem dX9_nextOf_32 : decode cX9_nextOf 32 = .ok (.if_icmp .ne 6, 3) := by decide +kernel
theorem dX9_nextOf_35 : decode cX9_nextOf 35 = .ok (.goto 83, 3) := by decide +kernel
theorem dX9_nextOf_38 : decode cX9_nextOf 38 = .ok (.iconst 0, 1) := by decide +kernel
theorem dX9_nextOf_39 : decode cX9_nextOf 39 = .ok (.istore 6, 2) := by decide +kernel
theorem dX9_nextOf_41 : decode cX9_nextOf 41 = .ok (.iconst 0, 1) := by decide +kernel
theorem dX9_nextOf_42 : decode cX9_nextOf 42 = .ok (.istore 7, 2) := by decide +kernel
theorem dX9_nextOf_44 : decode cX9_nextOf 44 = .ok (.iload 7, 2) := by decide +kernel
theorem dX9_nextOf_46 : decode cX9_nextOf 46 = .ok (.iload_n 2, 1) := by decide +kernel
theorem dX9_nextOf_47 : decode cX9_nextOf 47 = .ok (.if_icmp .ge 34, 3) := by decide +kernel
theorem dX9_nextOf_50 : decode cX9_nextOf 50 = .ok (.iload 6, 2) := by decide +kernel
theorem dX9_nextOf_52 : decode cX9_nextOf 52 = .ok (.aload_n 0, 1) := by decide +kernel
theorem dX9_nextOf_53 : decode cX9_nextOf 53 = .ok (.getfield 84, 3) := by decide +kernel
theorem dX9_nextOf_56 : decode cX9_nextOf 56 = .ok (.bipush 92, 2) := by decide +kernel
theorem dX9_nextOf_58 : decode cX9_nextOf 58 = .ok (.iload 5, 2) := by decide +kernel
theorem dX9_nextOf_60 : decode cX9_nextOf 60 = .ok (.imul, 1) := by decide +kernel
theorem dX9_nextOf_61 : decode cX9_nextOf 61 = .ok (.aload_n 0, 1) := by decide +kernel
theorem dX9_nextOf_62 : decode cX9_nextOf 62 = .ok (.getfield 87, 3) := by decide +kernel
theorem dX9_nextOf_65 : decode cX9_nextOf 65 = .ok (.iload_n 1, 1) := by decide +kernel
theorem dX9_nextOf_66 : decode cX9_nextOf 66 = .ok (.iload 7, 2) := by decide +kernel
theorem dX9_nextOf_68 : decode cX9_nextOf 68 = .ok (.iadd, 1) := by decide +kernel
theorem dX9_nextOf_69 : decode cX9_nextOf 69 = .ok (.iaload, 1) := by decide +kernel
theorem dX9_nextOf_70 : decode cX9_nextOf 70 = .ok (.iadd, 1) := by decide +kernel
theorem dX9_nextOf_71 : decode cX9_nextOf 71 = .ok (.iaload, 1) := by decide +kernel
theorem dX9_nextOf_72 : decode cX9_nextOf 72 = .ok (.iadd, 1) := by decide +kernel
theorem dX9_nextOf_73 : decode cX9_nextOf 73 = .ok (.istore 6, 2) := by decide +kernel
theorem dX9_nextOf_75 : decode cX9_nextOf 75 = .ok (.iinc 7 1, 3) := by decide +kernel
theorem dX9_nextOf_78 : decode cX9_nextOf 78 = .ok (.goto (-34), 3) := by decide +kernel
theorem dX9_nextOf_81 : decode cX9_nextOf 81 = .ok (.iload 6, 2) := by decide +kernel
theorem dX9_nextOf_83 : decode cX9_nextOf 83 = .ok (.iload_n 2, 1) := by decide +kernel
theorem dX9_nextOf_84 : decode cX9_nextOf 84 = .ok (.iload 6, 2) := by decide +kernel
theorem dX9_nextOf_86 : decode cX9_nextOf 86 = .ok (.isub, 1) := by decide +kernel
theorem dX9_nextOf_87 : decode cX9_nextOf 87 = .ok (.if_icmp .le 8, 3) := by decide +kernel
theorem dX9_nextOf_90 : decode cX9_nextOf 90 = .ok (.iload 6, 2) := by decide +kernel
theorem dX9_nextOf_92 : decode cX9_nextOf 92 = .ok (.goto 7, 3) := by decide +kernel
theorem dX9_nextOf_95 : decode cX9_nextOf 95 = .ok (.iload_n 2, 1) := by decide +kernel
theorem dX9_nextOf_96 : decode cX9_nextOf 96 = .ok (.iload 6, 2) := by decide +kernel
theorem dX9_nextOf_98 : decode cX9_nextOf 98 = .ok (.isub, 1) := by decide +kernel
theorem dX9_nextOf_99 : decode cX9_nextOf 99 = .ok (.istore 7, 2) := by decide +kernel
theorem dX9_nextOf_101 : decode cX9_nextOf 101 = .ok (.iload 7, 2) := by decide +kernel
theorem dX9_nextOf_103 : decode cX9_nextOf 103 = .ok (.iload 4, 2) := by decide +kernel
theorem dX9_nextOf_105 : decode cX9_nextOf 105 = .ok (.if_icmp .lt 6, 3) := by decide +kernel
theorem dX9_nextOf_108 : decode cX9_nextOf 108 = .ok (.goto 10, 3) := by decide +kernel
theorem dX9_nextOf_111 : decode cX9_nextOf 111 = .ok (.iload 5, 2) := by decide +kernel
theorem dX9_nextOf_113 : decode cX9_nextOf 113 = .ok (.istore_n 3, 1) := by decide +kernel
theorem dX9_nextOf_114 : decode cX9_nextOf 114 = .ok (.iload 7, 2) := by decide +kernel
theorem dX9_nextOf_116 : decode cX9_nextOf 116 = .ok (.istore 4, 2) := by decide +kernel
theorem dX9_nextOf_118 : decode cX9_nextOf 118 = .ok (.iinc 5 1, 3) := by decide +kernel
theorem dX9_nextOf_121 : decode cX9_nextOf 121 = .ok (.goto (-113), 3) := by decide +kernel
theorem dX9_nextOf_124 : decode cX9_nextOf 124 = .ok (.iload_n 3, 1) := by decide +kernel
theorem dX9_nextOf_125 : decode cX9_nextOf 125 = .ok (.ireturn, 1) := by decide +kernel
theorem dX9_begins_0 : decode cX9_begins 0 = .ok (.aload_n 0, 1) := by decide +kernel
theorem dX9_begins_1 : decode cX9_begins 1 = .ok (.invokevirtual 239, 3) := by decide +kernel
theorem dX9_begins_4 : decode cX9_begins 4 = .ok (.istore_n 1, 1) := by decide +kernel
theorem dX9_begins_5 : decode cX9_begins 5 = .ok (.aload_n 0, 1) := by decide +kernel
theorem dX9_begins_6 : decode cX9_begins 6 = .ok (.iload_n 1, 1) := by decide +kernel
theorem dX9_begins_7 : decode cX9_begins 7 = .ok (.invokevirtual 254, 3) := by decide +kernel
theorem dX9_begins_10 : decode cX9_begins 10 = .ok (.iconst 0, 1) := by decide +kernel
theorem dX9_begins_11 : decode cX9_begins 11 = .ok (.istore_n 2, 1) := by decide +kernel
theorem dX9_begins_12 : decode cX9_begins 12 = .ok (.iload_n 2, 1) := by decide +kernel
theorem dX9_begins_13 : decode cX9_begins 13 = .ok (.iload_n 1, 1) := by decide +kernel
theorem dX9_begins_14 : decode cX9_begins 14 = .ok (.if_icmp .ge 16, 3) := by decide +kernel
theorem dX9_begins_17 : decode cX9_begins 17 = .ok (.aload_n 0, 1) := by decide +kernel
theorem dX9_begins_18 : decode cX9_begins 18 = .ok (.getfield 87, 3) := by decide +kernel
theorem dX9_begins_21 : decode cX9_begins 21 = .ok (.iload_n 2, 1) := by decide +kernel
theorem dX9_begins_22 : decode cX9_begins 22 = .ok (.iload_n 2, 1) := by decide +kernel
theorem dX9_begins_23 : decode cX9_begins 23 = .ok (.iastore, 1) := by decide +kernel
theorem dX9_begins_24 : decode cX9_begins 24 = .ok (.iinc 2 1, 3) := by decide +kernel
theorem dX9_begins_27 : decode cX9_begins 27 = .ok (.goto (-15), 3) := by decide +kernel
theorem dX9_begins_30 : decode cX9_begins 30 = .ok (.iload_n 1, 1) := by decide +kernel
theorem dX9_begins_31 : decode cX9_begins 31 = .ok (.ireturn, 1) := by decide +kernel
theorem dX9_next_0 : decode cX9_next 0 = .ok (.aload_n 0, 1) := by decide +kernel
theorem dX9_next_1 : decode cX9_next 1 = .ok (.iconst 0, 1) := by decide +kernel
theorem dX9_next_2 : decode cX9_next 2 = .ok (.aload_n 0, 1) := by decide +kernel
theorem dX9_next_3 : decode cX9_next 3 = .ok (.invokevirtual 258, 3) := by decide +kernel
theorem dX9_next_6 : decode cX9_next 6 = .ok (.invokevirtual 261, 3) := by decide +kernel
theorem dX9_next_9 : decode cX9_next 9 = .ok (.ireturn, 1) := by decide +kernel
theorem dX9_goesBy_0 : decode cX9_goesBy 0 = .ok (.iload_n 2, 1) := by decide +kernel
theorem dX9_goesBy_1 : decode cX9_goesBy 1 = .ok (.iconst 2, 1) := by decide +kernel
theorem dX9_goesBy_2 : decode cX9_goesBy 2 = .ok (.if_icmp .ge 7, 3) := by decide +kernel
theorem dX9_goesBy_5 : decode cX9_goesBy 5 = .ok (.iconst (-1), 1) := by decide +kernel
theorem dX9_goesBy_6 : decode cX9_goesBy 6 = .ok (.goto 9, 3) := by decide +kernel
theorem dX9_goesBy_9 : decode cX9_goesBy 9 = .ok (.aload_n 0, 1) := by decide +kernel
theorem dX9_goesBy_10 : decode cX9_goesBy 10 = .ok (.iload_n 1, 1) := by decide +kernel
theorem dX9_goesBy_11 : decode cX9_goesBy 11 = .ok (.iload_n 2, 1) := by decide +kernel
theorem dX9_goesBy_12 : decode cX9_goesBy 12 = .ok (.invokevirtual 261, 3) := by decide +kernel
theorem dX9_goesBy_15 : decode cX9_goesBy 15 = .ok (.istore 4, 2) := by decide +kernel
theorem dX9_goesBy_17 : decode cX9_goesBy 17 = .ok (.iload 4, 2) := by decide +kernel
theorem dX9_goesBy_19 : decode cX9_goesBy 19 = .ok (.iconst (-1), 1) := by decide +kernel
theorem dX9_goesBy_20 : decode cX9_goesBy 20 = .ok (.if_icmp .ne 90, 3) := by decide +kernel
theorem dX9_goesBy_23 : decode cX9_goesBy 23 = .ok (.aload_n 0, 1) := by decide +kernel
theorem dX9_goesBy_24 : decode cX9_goesBy 24 = .ok (.iload_n 3, 1) := by decide +kernel
theorem dX9_goesBy_25 : decode cX9_goesBy 25 = .ok (.aload_n 0, 1) := by decide +kernel
theorem dX9_goesBy_26 : decode cX9_goesBy 26 = .ok (.getfield 264, 3) := by decide +kernel
theorem dX9_goesBy_29 : decode cX9_goesBy 29 = .ok (.if_icmp .le 7, 3) := by decide +kernel
theorem dX9_goesBy_32 : decode cX9_goesBy 32 = .ok (.iload_n 3, 1) := by decide +kernel
theorem dX9_goesBy_33 : decode cX9_goesBy 33 = .ok (.goto 7, 3) := by decide +kernel
theorem dX9_goesBy_36 : decode cX9_goesBy 36 = .ok (.aload_n 0, 1) := by decide +kernel
theorem dX9_goesBy_37 : decode cX9_goesBy 37 = .ok (.getfield 264, 3) := by decide +kernel
theorem dX9_goesBy_40 : decode cX9_goesBy 40 = .ok (.putfield 264, 3) := by decide +kernel
theorem dX9_goesBy_43 : decode cX9_goesBy 43 = .ok (.aload_n 0, 1) := by decide +kernel
theorem dX9_goesBy_44 : decode cX9_goesBy 44 = .ok (.iload_n 2, 1) := by decide +kernel
theorem dX9_goesBy_45 : decode cX9_goesBy 45 = .ok (.aload_n 0, 1) := by decide +kernel
theorem dX9_goesBy_46 : decode cX9_goesBy 46 = .ok (.getfield 267, 3) := by decide +kernel
theorem dX9_goesBy_49 : decode cX9_goesBy 49 = .ok (.if_icmp .le 7, 3) := by decide +kernel
theorem dX9_goesBy_52 : decode cX9_goesBy 52 = .ok (.iload_n 2, 1) := by decide +kernel
theorem dX9_goesBy_53 : decode cX9_goesBy 53 = .ok (.goto 7, 3) := by decide +kernel
theorem dX9_goesBy_56 : decode cX9_goesBy 56 = .ok (.aload_n 0, 1) := by decide +kernel
theorem dX9_goesBy_57 : decode cX9_goesBy 57 = .ok (.getfield 267, 3) := by decide +kernel
theorem dX9_goesBy_60 : decode cX9_goesBy 60 = .ok (.putfield 267, 3) := by decide +kernel
theorem dX9_goesBy_63 : decode cX9_goesBy 63 = .ok (.iconst 0, 1) := by decide +kernel
theorem dX9_goesBy_64 : decode cX9_goesBy 64 = .ok (.istore 5, 2) := by decide +kernel
theorem dX9_goesBy_66 : decode cX9_goesBy 66 = .ok (.iload 5, 2) := by decide +kernel
theorem dX9_goesBy_68 : decode cX9_goesBy 68 = .ok (.iload_n 2, 1) := by decide +kernel
theorem dX9_goesBy_69 : decode cX9_goesBy 69 = .ok (.if_icmp .ge 40, 3) := by decide +kernel
theorem dX9_goesBy_72 : decode cX9_goesBy 72 = .ok (.aload_n 0, 1) := by decide +kernel
theorem dX9_goesBy_73 : decode cX9_goesBy 73 = .ok (.dup, 1) := by decide +kernel
theorem dX9_goesBy_74 : decode cX9_goesBy 74 = .ok (.getfield 270, 3) := by decide +kernel
theorem dX9_goesBy_77 : decode cX9_goesBy 77 = .ok (.iload_n 3, 1) := by decide +kernel
theorem dX9_goesBy_78 : decode cX9_goesBy 78 = .ok (.i2l, 1) := by decide +kernel
theorem dX9_goesBy_79 : decode cX9_goesBy 79 = .ok (.aload_n 0, 1) := by decide +kernel
theorem dX9_goesBy_80 : decode cX9_goesBy 80 = .ok (.aload_n 0, 1) := by decide +kernel
theorem dX9_goesBy_81 : decode cX9_goesBy 81 = .ok (.getfield 81, 3) := by decide +kernel
theorem dX9_goesBy_84 : decode cX9_goesBy 84 = .ok (.aload_n 0, 1) := by decide +kernel
theorem dX9_goesBy_85 : decode cX9_goesBy 85 = .ok (.getfield 87, 3) := by decide +kernel
theorem dX9_goesBy_88 : decode cX9_goesBy 88 = .ok (.iload_n 1, 1) := by decide +kernel
theorem dX9_goesBy_89 : decode cX9_goesBy 89 = .ok (.iload 5, 2) := by decide +kernel
theorem dX9_goesBy_91 : decode cX9_goesBy 91 = .ok (.iadd, 1) := by decide +kernel
theorem dX9_goesBy_92 : decode cX9_goesBy 92 = .ok (.iaload, 1) := by decide +kernel
theorem dX9_goesBy_93 : decode cX9_goesBy 93 = .ok (.iaload, 1) := by decide +kernel
theorem dX9_goesBy_94 : decode cX9_goesBy 94 = .ok (.invokevirtual 245, 3) := by decide +kernel
theorem dX9_goesBy_97 : decode cX9_goesBy 97 = .ok (.i2l, 1) := by decide +kernel
theorem dX9_goesBy_98 : decode cX9_goesBy 98 = .ok (.lmul, 1) := by decide +kernel
theorem dX9_goesBy_99 : decode cX9_goesBy 99 = .ok (.ladd, 1) := by decide +kernel
theorem dX9_goesBy_100 : decode cX9_goesBy 100 = .ok (.putfield 270, 3) := by decide +kernel
theorem dX9_goesBy_103 : decode cX9_goesBy 103 = .ok (.iinc 5 1, 3) := by decide +kernel
theorem dX9_goesBy_106 : decode cX9_goesBy 106 = .ok (.goto (-40), 3) := by decide +kernel
theorem dX9_goesBy_109 : decode cX9_goesBy 109 = .ok (.return_, 1) := by decide +kernel
theorem dX9_goesBy_110 : decode cX9_goesBy 110 = .ok (.iconst 0, 1) := by decide +kernel
theorem dX9_goesBy_111 : decode cX9_goesBy 111 = .ok (.istore 5, 2) := by decide +kernel
theorem dX9_goesBy_113 : decode cX9_goesBy 113 = .ok (.iload 5, 2) := by decide +kernel
theorem dX9_goesBy_115 : decode cX9_goesBy 115 = .ok (.iconst 2, 1) := by decide +kernel
theorem dX9_goesBy_116 : decode cX9_goesBy 116 = .ok (.if_icmp .ge 90, 3) := by decide +kernel
theorem dX9_goesBy_119 : decode cX9_goesBy 119 = .ok (.iconst 0, 1) := by decide +kernel
theorem dX9_goesBy_120 : decode cX9_goesBy 120 = .ok (.istore 6, 2) := by decide +kernel
theorem dX9_goesBy_122 : decode cX9_goesBy 122 = .ok (.iconst 0, 1) := by decide +kernel
theorem dX9_goesBy_123 : decode cX9_goesBy 123 = .ok (.istore 7, 2) := by decide +kernel
theorem dX9_goesBy_125 : decode cX9_goesBy 125 = .ok (.iload 7, 2) := by decide +kernel
theorem dX9_goesBy_127 : decode cX9_goesBy 127 = .ok (.iload_n 2, 1) := by decide +kernel
theorem dX9_goesBy_128 : decode cX9_goesBy 128 = .ok (.if_icmp .ge 60, 3) := by decide +kernel
theorem dX9_goesBy_131 : decode cX9_goesBy 131 = .ok (.aload_n 0, 1) := by decide +kernel
theorem dX9_goesBy_132 : decode cX9_goesBy 132 = .ok (.getfield 84, 3) := by decide +kernel
theorem dX9_goesBy_135 : decode cX9_goesBy 135 = .ok (.bipush 92, 2) := by decide +kernel
theorem dX9_goesBy_137 : decode cX9_goesBy 137 = .ok (.iload 4, 2) := by decide +kernel
theorem dX9_goesBy_139 : decode cX9_goesBy 139 = .ok (.imul, 1) := by decide +kernel
theorem dX9_goesBy_140 : decode cX9_goesBy 140 = .ok (.aload_n 0, 1) := by decide +kernel
theorem dX9_goesBy_141 : decode cX9_goesBy 141 = .ok (.getfield 87, 3) := by decide +kernel
theorem dX9_goesBy_144 : decode cX9_goesBy 144 = .ok (.iload_n 1, 1) := by decide +kernel
theorem dX9_goesBy_145 : decode cX9_goesBy 145 = .ok (.iload 7, 2) := by decide +kernel
theorem dX9_goesBy_147 : decode cX9_goesBy 147 = .ok (.iadd, 1) := by decide +kernel
theorem dX9_goesBy_148 : decode cX9_goesBy 148 = .ok (.iaload, 1) := by decide +kernel
theorem dX9_goesBy_149 : decode cX9_goesBy 149 = .ok (.iadd, 1) := by decide +kernel
theorem dX9_goesBy_150 : decode cX9_goesBy 150 = .ok (.iaload, 1) := by decide +kernel
theorem dX9_goesBy_151 : decode cX9_goesBy 151 = .ok (.iload 5, 2) := by decide +kernel
theorem dX9_goesBy_153 : decode cX9_goesBy 153 = .ok (.if_icmp .eq 6, 3) := by decide +kernel
theorem dX9_goesBy_156 : decode cX9_goesBy 156 = .ok (.goto 26, 3) := by decide +kernel
theorem dX9_goesBy_159 : decode cX9_goesBy 159 = .ok (.aload_n 0, 1) := by decide +kernel
theorem dX9_goesBy_160 : decode cX9_goesBy 160 = .ok (.getfield 87, 3) := by decide +kernel
theorem dX9_goesBy_163 : decode cX9_goesBy 163 = .ok (.iload_n 1, 1) := by decide +kernel
theorem dX9_goesBy_164 : decode cX9_goesBy 164 = .ok (.iload_n 2, 1) := by decide +kernel
theorem dX9_goesBy_165 : decode cX9_goesBy 165 = .ok (.iadd, 1) := by decide +kernel
theorem dX9_goesBy_166 : decode cX9_goesBy 166 = .ok (.iload 6, 2) := by decide +kernel
theorem dX9_goesBy_168 : decode cX9_goesBy 168 = .ok (.iadd, 1) := by decide +kernel
theorem dX9_goesBy_169 : decode cX9_goesBy 169 = .ok (.aload_n 0, 1) := by decide +kernel
theorem dX9_goesBy_170 : decode cX9_goesBy 170 = .ok (.getfield 87, 3) := by decide +kernel
theorem dX9_goesBy_173 : decode cX9_goesBy 173 = .ok (.iload_n 1, 1) := by decide +kernel
theorem dX9_goesBy_174 : decode cX9_goesBy 174 = .ok (.iload 7, 2) := by decide +kernel
theorem dX9_goesBy_176 : decode cX9_goesBy 176 = .ok (.iadd, 1) := by decide +kernel
theorem dX9_goesBy_177 : decode cX9_goesBy 177 = .ok (.iaload, 1) := by decide +kernel
theorem dX9_goesBy_178 : decode cX9_goesBy 178 = .ok (.iastore, 1) := by decide +kernel
theorem dX9_goesBy_179 : decode cX9_goesBy 179 = .ok (.iinc 6 1, 3) := by decide +kernel
theorem dX9_goesBy_182 : decode cX9_goesBy 182 = .ok (.iinc 7 1, 3) := by decide +kernel
theorem dX9_goesBy_185 : decode cX9_goesBy 185 = .ok (.goto (-60), 3) := by decide +kernel
theorem dX9_goesBy_188 : decode cX9_goesBy 188 = .ok (.aload_n 0, 1) := by decide +kernel
theorem dX9_goesBy_189 : decode cX9_goesBy 189 = .ok (.iload_n 1, 1) := by decide +kernel
theorem dX9_goesBy_190 : decode cX9_goesBy 190 = .ok (.iload_n 2, 1) := by decide +kernel
theorem dX9_goesBy_191 : decode cX9_goesBy 191 = .ok (.iadd, 1) := by decide +kernel
theorem dX9_goesBy_192 : decode cX9_goesBy 192 = .ok (.iload 6, 2) := by decide +kernel
theorem dX9_goesBy_194 : decode cX9_goesBy 194 = .ok (.iload_n 3, 1) := by decide +kernel
theorem dX9_goesBy_195 : decode cX9_goesBy 195 = .ok (.iconst 1, 1) := by decide +kernel
theorem dX9_goesBy_196 : decode cX9_goesBy 196 = .ok (.iadd, 1) := by decide +kernel
theorem dX9_goesBy_197 : decode cX9_goesBy 197 = .ok (.invokevirtual 274, 3) := by decide +kernel
theorem dX9_goesBy_200 : decode cX9_goesBy 200 = .ok (.iinc 5 1, 3) := by decide +kernel
theorem dX9_goesBy_203 : decode cX9_goesBy 203 = .ok (.goto (-90), 3) := by decide +kernel
theorem dX9_goesBy_206 : decode cX9_goesBy 206 = .ok (.return_, 1) := by decide +kernel
theorem dX9_by_0 : decode cX9_by 0 = .ok (.iload_n 1, 1) := by decide +kernel
theorem dX9_by_1 : decode cX9_by 1 = .ok (.ifCond .lt 8, 3) := by decide +kernel
theorem dX9_by_4 : decode cX9_by 4 = .ok (.iload_n 1, 1) := by decide +kernel
theorem dX9_by_5 : decode cX9_by 5 = .ok (.iconst 2, 1) := by decide +kernel
theorem dX9_by_6 : decode cX9_by 6 = .ok (.if_icmp .le 10, 3) := by decide +kernel
theorem dX9_by_9 : decode cX9_by 9 = .ok (.aload_n 0, 1) := by decide +kernel
theorem dX9_by_10 : decode cX9_by 10 = .ok (.bipush (-5), 2) := by decide +kernel
theorem dX9_by_12 : decode cX9_by 12 = .ok (.invokevirtual 107, 3) := by decide +kernel
theorem dX9_by_15 : decode cX9_by 15 = .ok (.ireturn, 1) := by decide +kernel
theorem dX9_by_16 : decode cX9_by 16 = .ok (.aload_n 0, 1) := by decide +kernel
theorem dX9_by_17 : decode cX9_by 17 = .ok (.invokevirtual 258, 3) := by decide +kernel
theorem dX9_by_20 : decode cX9_by 20 = .ok (.istore_n 2, 1) := by decide +kernel
theorem dX9_by_21 : decode cX9_by 21 = .ok (.iload_n 2, 1) := by decide +kernel
theorem dX9_by_22 : decode cX9_by 22 = .ok (.ifCond .ne 10, 3) := by decide +kernel
theorem dX9_by_25 : decode cX9_by 25 = .ok (.aload_n 0, 1) := by decide +kernel
theorem dX9_by_26 : decode cX9_by 26 = .ok (.bipush (-5), 2) := by decide +kernel
theorem dX9_by_28 : decode cX9_by 28 = .ok (.invokevirtual 107, 3) := by decide +kernel
theorem dX9_by_31 : decode cX9_by 31 = .ok (.ireturn, 1) := by decide +kernel
theorem dX9_by_32 : decode cX9_by 32 = .ok (.aload_n 0, 1) := by decide +kernel
theorem dX9_by_33 : decode cX9_by 33 = .ok (.iconst 0, 1) := by decide +kernel
theorem dX9_by_34 : decode cX9_by 34 = .ok (.putfield 264, 3) := by decide +kernel
theorem dX9_by_37 : decode cX9_by 37 = .ok (.aload_n 0, 1) := by decide +kernel
theorem dX9_by_38 : decode cX9_by 38 = .ok (.iconst 0, 1) := by decide +kernel
theorem dX9_by_39 : decode cX9_by 39 = .ok (.putfield 267, 3) := by decide +kernel
theorem dX9_by_42 : decode cX9_by 42 = .ok (.aload_n 0, 1) := by decide +kernel
theorem dX9_by_43 : decode cX9_by 43 = .ok (.lconst 0, 1) := by decide +kernel
theorem dX9_by_44 : decode cX9_by 44 = .ok (.putfield 270, 3) := by decide +kernel
theorem dX9_by_47 : decode cX9_by 47 = .ok (.aload_n 0, 1) := by decide +kernel
theorem dX9_by_48 : decode cX9_by 48 = .ok (.iconst 0, 1) := by decide +kernel
theorem dX9_by_49 : decode cX9_by 49 = .ok (.iload_n 2, 1) := by decide +kernel
theorem dX9_by_50 : decode cX9_by 50 = .ok (.iconst 0, 1) := by decide +kernel
theorem dX9_by_51 : decode cX9_by 51 = .ok (.invokevirtual 274, 3) := by decide +kernel
theorem dX9_by_54 : decode cX9_by 54 = .ok (.lconst 0, 1) := by decide +kernel
theorem dX9_by_55 : decode cX9_by 55 = .ok (.lstore_n 3, 1) := by decide +kernel
theorem dX9_by_56 : decode cX9_by 56 = .ok (.iconst 0, 1) := by decide +kernel
theorem dX9_by_57 : decode cX9_by 57 = .ok (.istore 5, 2) := by decide +kernel
theorem dX9_by_59 : decode cX9_by 59 = .ok (.iload 5, 2) := by decide +kernel
theorem dX9_by_61 : decode cX9_by 61 = .ok (.iload_n 2, 1) := by decide +kernel
theorem dX9_by_62 : decode cX9_by 62 = .ok (.if_icmp .ge 24, 3) := by decide +kernel
theorem dX9_by_65 : decode cX9_by 65 = .ok (.lload_n 3, 1) := by decide +kernel
theorem dX9_by_66 : decode cX9_by 66 = .ok (.aload_n 0, 1) := by decide +kernel
theorem dX9_by_67 : decode cX9_by 67 = .ok (.aload_n 0, 1) := by decide +kernel
theorem dX9_by_68 : decode cX9_by 68 = .ok (.getfield 81, 3) := by decide +kernel
theorem dX9_by_71 : decode cX9_by 71 = .ok (.iload 5, 2) := by decide +kernel
theorem dX9_by_73 : decode cX9_by 73 = .ok (.iaload, 1) := by decide +kernel
theorem dX9_by_74 : decode cX9_by 74 = .ok (.invokevirtual 245, 3) := by decide +kernel
theorem dX9_by_77 : decode cX9_by 77 = .ok (.i2l, 1) := by decide +kernel
theorem dX9_by_78 : decode cX9_by 78 = .ok (.ladd, 1) := by decide +kernel
theorem dX9_by_79 : decode cX9_by 79 = .ok (.lstore_n 3, 1) := by decide +kernel
theorem dX9_by_80 : decode cX9_by 80 = .ok (.iinc 5 1, 3) := by decide +kernel
theorem dX9_by_83 : decode cX9_by 83 = .ok (.goto (-24), 3) := by decide +kernel
theorem dX9_by_86 : decode cX9_by 86 = .ok (.iload_n 1, 1) := by decide +kernel
theorem dX9_by_87 : decode cX9_by 87 = .ok (.ifCond .ne 10, 3) := by decide +kernel
theorem dX9_by_90 : decode cX9_by 90 = .ok (.aload_n 0, 1) := by decide +kernel
theorem dX9_by_91 : decode cX9_by 91 = .ok (.getfield 264, 3) := by decide +kernel
theorem dX9_by_94 : decode cX9_by 94 = .ok (.goto 26, 3) := by decide +kernel
theorem dX9_by_97 : decode cX9_by 97 = .ok (.iload_n 1, 1) := by decide +kernel
theorem dX9_by_98 : decode cX9_by 98 = .ok (.iconst 1, 1) := by decide +kernel
theorem dX9_by_99 : decode cX9_by 99 = .ok (.if_icmp .ne 17, 3) := by decide +kernel
theorem dX9_by_102 : decode cX9_by 102 = .ok (.ldc2_w 278, 3) := by decide +kernel
theorem dX9_by_105 : decode cX9_by 105 = .ok (.aload_n 0, 1) := by decide +kernel
theorem dX9_by_106 : decode cX9_by 106 = .ok (.getfield 270, 3) := by decide +kernel
theorem dX9_by_109 : decode cX9_by 109 = .ok (.lmul, 1) := by decide +kernel
theorem dX9_by_110 : decode cX9_by 110 = .ok (.lload_n 3, 1) := by decide +kernel
theorem dX9_by_111 : decode cX9_by 111 = .ok (.ldiv, 1) := by decide +kernel
theorem dX9_by_112 : decode cX9_by 112 = .ok (.l2i, 1) := by decide +kernel
theorem dX9_by_113 : decode cX9_by 113 = .ok (.goto 7, 3) := by decide +kernel
theorem dX9_by_116 : decode cX9_by 116 = .ok (.aload_n 0, 1) := by decide +kernel
theorem dX9_by_117 : decode cX9_by 117 = .ok (.getfield 267, 3) := by decide +kernel
theorem dX9_by_120 : decode cX9_by 120 = .ok (.ireturn, 1) := by decide +kernel
theorem dX9_ahead_0 : decode cX9_ahead 0 = .ok (.aload_n 0, 1) := by decide +kernel
theorem dX9_ahead_1 : decode cX9_ahead 1 = .ok (.iload_n 1, 1) := by decide +kernel
theorem dX9_ahead_2 : decode cX9_ahead 2 = .ok (.iload_n 2, 1) := by decide +kernel
theorem dX9_ahead_3 : decode cX9_ahead 3 = .ok (.invokevirtual 280, 3) := by decide +kernel
theorem dX9_ahead_6 : decode cX9_ahead 6 = .ok (.istore 4, 2) := by decide +kernel
theorem dX9_ahead_8 : decode cX9_ahead 8 = .ok (.iload 4, 2) := by decide +kernel
theorem dX9_ahead_10 : decode cX9_ahead 10 = .ok (.ifCond .ne 15, 3) := by decide +kernel
theorem dX9_ahead_13 : decode cX9_ahead 13 = .ok (.aload_n 0, 1) := by decide +kernel
theorem dX9_ahead_14 : decode cX9_ahead 14 = .ok (.iload_n 3, 1) := by decide +kernel
theorem dX9_ahead_15 : decode cX9_ahead 15 = .ok (.invokevirtual 175, 3) := by decide +kernel
theorem dX9_ahead_18 : decode cX9_ahead 18 = .ok (.ifCond .ne 7, 3) := by decide +kernel
theorem dX9_ahead_21 : decode cX9_ahead 21 = .ok (.bipush (-5), 2) := by decide +kernel
theorem dX9_ahead_23 : decode cX9_ahead 23 = .ok (.istore 4, 2) := by decide +kernel
theorem dX9_ahead_25 : decode cX9_ahead 25 = .ok (.iload 4, 2) := by decide +kernel
theorem dX9_ahead_27 : decode cX9_ahead 27 = .ok (.ifCond .ne 13, 3) := by decide +kernel
theorem dX9_ahead_30 : decode cX9_ahead 30 = .ok (.iload_n 2, 1) := by decide +kernel
theorem dX9_ahead_31 : decode cX9_ahead 31 = .ok (.bipush 16, 2) := by decide +kernel
theorem dX9_ahead_33 : decode cX9_ahead 33 = .ok (.if_icmp .le 7, 3) := by decide +kernel
theorem dX9_ahead_36 : decode cX9_ahead 36 = .ok (.bipush (-6), 2) := by decide +kernel
theorem dX9_ahead_38 : decode cX9_ahead 38 = .ok (.istore 4, 2) := by decide +kernel
theorem dX9_ahead_40 : decode cX9_ahead 40 = .ok (.iconst 0, 1) := by decide +kernel
theorem dX9_ahead_41 : decode cX9_ahead 41 = .ok (.istore 5, 2) := by decide +kernel
theorem dX9_ahead_43 : decode cX9_ahead 43 = .ok (.iload 5, 2) := by decide +kernel
theorem dX9_ahead_45 : decode cX9_ahead 45 = .ok (.iload_n 2, 1) := by decide +kernel
theorem dX9_ahead_46 : decode cX9_ahead 46 = .ok (.if_icmp .ge 32, 3) := by decide +kernel
theorem dX9_ahead_49 : decode cX9_ahead 49 = .ok (.iload 4, 2) := by decide +kernel
theorem dX9_ahead_51 : decode cX9_ahead 51 = .ok (.ifCond .ne 27, 3) := by decide +kernel
theorem dX9_ahead_54 : decode cX9_ahead 54 = .ok (.aload_n 0, 1) := by decide +kernel
theorem dX9_ahead_55 : decode cX9_ahead 55 = .ok (.aload_n 0, 1) := by decide +kernel
theorem dX9_ahead_56 : decode cX9_ahead 56 = .ok (.iload_n 1, 1) := by decide +kernel
theorem dX9_ahead_57 : decode cX9_ahead 57 = .ok (.iload 5, 2) := by decide +kernel
theorem dX9_ahead_59 : decode cX9_ahead 59 = .ok (.invokevirtual 283, 3) := by decide +kernel
theorem dX9_ahead_62 : decode cX9_ahead 62 = .ok (.invokevirtual 172, 3) := by decide +kernel
theorem dX9_ahead_65 : decode cX9_ahead 65 = .ok (.ifCond .ne 7, 3) := by decide +kernel
theorem dX9_ahead_68 : decode cX9_ahead 68 = .ok (.bipush (-6), 2) := by decide +kernel
theorem dX9_ahead_70 : decode cX9_ahead 70 = .ok (.istore 4, 2) := by decide +kernel
theorem dX9_ahead_72 : decode cX9_ahead 72 = .ok (.iinc 5 1, 3) := by decide +kernel
theorem dX9_ahead_75 : decode cX9_ahead 75 = .ok (.goto (-32), 3) := by decide +kernel
theorem dX9_ahead_78 : decode cX9_ahead 78 = .ok (.iload 4, 2) := by decide +kernel
theorem dX9_ahead_80 : decode cX9_ahead 80 = .ok (.ifCond .eq 10, 3) := by decide +kernel
theorem dX9_ahead_83 : decode cX9_ahead 83 = .ok (.aload_n 0, 1) := by decide +kernel
theorem dX9_ahead_84 : decode cX9_ahead 84 = .ok (.iload 4, 2) := by decide +kernel
theorem dX9_ahead_86 : decode cX9_ahead 86 = .ok (.invokevirtual 107, 3) := by decide +kernel
theorem dX9_ahead_89 : decode cX9_ahead 89 = .ok (.ireturn, 1) := by decide +kernel
theorem dX9_ahead_90 : decode cX9_ahead 90 = .ok (.aload_n 0, 1) := by decide +kernel
theorem dX9_ahead_91 : decode cX9_ahead 91 = .ok (.invokevirtual 239, 3) := by decide +kernel
theorem dX9_ahead_94 : decode cX9_ahead 94 = .ok (.istore 5, 2) := by decide +kernel
theorem dX9_ahead_96 : decode cX9_ahead 96 = .ok (.iconst 0, 1) := by decide +kernel
theorem dX9_ahead_97 : decode cX9_ahead 97 = .ok (.istore 6, 2) := by decide +kernel
theorem dX9_ahead_99 : decode cX9_ahead 99 = .ok (.iconst 0, 1) := by decide +kernel
theorem dX9_ahead_100 : decode cX9_ahead 100 = .ok (.istore 7, 2) := by decide +kernel
theorem dX9_ahead_102 : decode cX9_ahead 102 = .ok (.iconst 0, 1) := by decide +kernel
theorem dX9_ahead_103 : decode cX9_ahead 103 = .ok (.istore 8, 2) := by decide +kernel
theorem dX9_ahead_105 : decode cX9_ahead 105 = .ok (.iload 8, 2) := by decide +kernel
theorem dX9_ahead_107 : decode cX9_ahead 107 = .ok (.iload 5, 2) := by decide +kernel
theorem dX9_ahead_109 : decode cX9_ahead 109 = .ok (.if_icmp .ge 63, 3) := by decide +kernel
theorem dX9_ahead_112 : decode cX9_ahead 112 = .ok (.aload_n 0, 1) := by decide +kernel
theorem dX9_ahead_113 : decode cX9_ahead 113 = .ok (.getfield 90, 3) := by decide +kernel
theorem dX9_ahead_116 : decode cX9_ahead 116 = .ok (.iload 8, 2) := by decide +kernel
theorem dX9_ahead_118 : decode cX9_ahead 118 = .ok (.iconst 0, 1) := by decide +kernel
theorem dX9_ahead_119 : decode cX9_ahead 119 = .ok (.iastore, 1) := by decide +kernel
theorem dX9_ahead_120 : decode cX9_ahead 120 = .ok (.iconst 0, 1) := by decide +kernel
theorem dX9_ahead_121 : decode cX9_ahead 121 = .ok (.istore 9, 2) := by decide +kernel
theorem dX9_ahead_123 : decode cX9_ahead 123 = .ok (.iload 9, 2) := by decide +kernel
theorem dX9_ahead_125 : decode cX9_ahead 125 = .ok (.iload_n 2, 1) := by decide +kernel
theorem dX9_ahead_126 : decode cX9_ahead 126 = .ok (.if_icmp .ge 40, 3) := by decide +kernel
theorem dX9_ahead_129 : decode cX9_ahead 129 = .ok (.aload_n 0, 1) := by decide +kernel
theorem dX9_ahead_130 : decode cX9_ahead 130 = .ok (.getfield 90, 3) := by decide +kernel
theorem dX9_ahead_133 : decode cX9_ahead 133 = .ok (.iload 8, 2) := by decide +kernel
theorem dX9_ahead_135 : decode cX9_ahead 135 = .ok (.dup2, 1) := by decide +kernel
theorem dX9_ahead_136 : decode cX9_ahead 136 = .ok (.iaload, 1) := by decide +kernel
theorem dX9_ahead_137 : decode cX9_ahead 137 = .ok (.aload_n 0, 1) := by decide +kernel
theorem dX9_ahead_138 : decode cX9_ahead 138 = .ok (.aload_n 0, 1) := by decide +kernel
theorem dX9_ahead_139 : decode cX9_ahead 139 = .ok (.iload_n 1, 1) := by decide +kernel
theorem dX9_ahead_140 : decode cX9_ahead 140 = .ok (.iload 9, 2) := by decide +kernel
theorem dX9_ahead_142 : decode cX9_ahead 142 = .ok (.invokevirtual 283, 3) := by decide +kernel
theorem dX9_ahead_145 : decode cX9_ahead 145 = .ok (.aload_n 0, 1) := by decide +kernel
theorem dX9_ahead_146 : decode cX9_ahead 146 = .ok (.getfield 81, 3) := by decide +kernel
theorem dX9_ahead_149 : decode cX9_ahead 149 = .ok (.iload 8, 2) := by decide +kernel
theorem dX9_ahead_151 : decode cX9_ahead 151 = .ok (.iaload, 1) := by decide +kernel
theorem dX9_ahead_152 : decode cX9_ahead 152 = .ok (.invokevirtual 230, 3) := by decide +kernel
theorem dX9_ahead_155 : decode cX9_ahead 155 = .ok (.iload 9, 2) := by decide +kernel
theorem dX9_ahead_157 : decode cX9_ahead 157 = .ok (.ishl, 1) := by decide +kernel
theorem dX9_ahead_158 : decode cX9_ahead 158 = .ok (.ior, 1) := by decide +kernel
theorem dX9_ahead_159 : decode cX9_ahead 159 = .ok (.iastore, 1) := by decide +kernel
theorem dX9_ahead_160 : decode cX9_ahead 160 = .ok (.iinc 9 1, 3) := by decide +kernel
theorem dX9_ahead_163 : decode cX9_ahead 163 = .ok (.goto (-40), 3) := by decide +kernel
theorem dX9_ahead_166 : decode cX9_ahead 166 = .ok (.iinc 8 1, 3) := by decide +kernel
theorem dX9_ahead_169 : decode cX9_ahead 169 = .ok (.goto (-64), 3) := by decide +kernel
theorem dX9_ahead_172 : decode cX9_ahead 172 = .ok (.iconst 0, 1) := by decide +kernel
theorem dX9_ahead_173 : decode cX9_ahead 173 = .ok (.istore 8, 2) := by decide +kernel
theorem dX9_ahead_175 : decode cX9_ahead 175 = .ok (.iload 8, 2) := by decide +kernel
theorem dX9_ahead_177 : decode cX9_ahead 177 = .ok (.iload 5, 2) := by decide +kernel
theorem dX9_ahead_179 : decode cX9_ahead 179 = .ok (.if_icmp .ge 88, 3) := by decide +kernel
theorem dX9_ahead_182 : decode cX9_ahead 182 = .ok (.iconst 0, 1) := by decide +kernel
theorem dX9_ahead_183 : decode cX9_ahead 183 = .ok (.istore 9, 2) := by decide +kernel
theorem dX9_ahead_185 : decode cX9_ahead 185 = .ok (.iconst 0, 1) := by decide +kernel
theorem dX9_ahead_186 : decode cX9_ahead 186 = .ok (.istore 10, 2) := by decide +kernel
theorem dX9_ahead_188 : decode cX9_ahead 188 = .ok (.iconst 0, 1) := by decide +kernel
theorem dX9_ahead_189 : decode cX9_ahead 189 = .ok (.istore 11, 2) := by decide +kernel
theorem dX9_ahead_191 : decode cX9_ahead 191 = .ok (.iload 11, 2) := by decide +kernel
theorem dX9_ahead_193 : decode cX9_ahead 193 = .ok (.iload 5, 2) := by decide +kernel
theorem dX9_ahead_195 : decode cX9_ahead 195 = .ok (.if_icmp .ge 42, 3) := by decide +kernel
theorem dX9_ahead_198 : decode cX9_ahead 198 = .ok (.aload_n 0, 1) := by decide +kernel
theorem dX9_ahead_199 : decode cX9_ahead 199 = .ok (.getfield 90, 3) := by decide +kernel
theorem dX9_ahead_202 : decode cX9_ahead 202 = .ok (.iload 11, 2) := by decide +kernel
theorem dX9_ahead_204 : decode cX9_ahead 204 = .ok (.iaload, 1) := by decide +kernel
theorem dX9_ahead_205 : decode cX9_ahead 205 = .ok (.aload_n 0, 1) := by decide +kernel
theorem dX9_ahead_206 : decode cX9_ahead 206 = .ok (.getfield 90, 3) := by decide +kernel
theorem dX9_ahead_209 : decode cX9_ahead 209 = .ok (.iload 8, 2) := by decide +kernel
theorem dX9_ahead_211 : decode cX9_ahead 211 = .ok (.iaload, 1) := by decide +kernel
theorem dX9_ahead_212 : decode cX9_ahead 212 = .ok (.if_icmp .eq 6, 3) := by decide +kernel
theorem dX9_ahead_215 : decode cX9_ahead 215 = .ok (.goto 16, 3) := by decide +kernel
theorem dX9_ahead_218 : decode cX9_ahead 218 = .ok (.iinc 10 1, 3) := by decide +kernel
theorem dX9_ahead_221 : decode cX9_ahead 221 = .ok (.iload 11, 2) := by decide +kernel
theorem dX9_ahead_223 : decode cX9_ahead 223 = .ok (.iload 8, 2) := by decide +kernel
theorem dX9_ahead_225 : decode cX9_ahead 225 = .ok (.if_icmp .ge 6, 3) := by decide +kernel
theorem dX9_ahead_228 : decode cX9_ahead 228 = .ok (.iinc 9 1, 3) := by decide +kernel
theorem dX9_ahead_231 : decode cX9_ahead 231 = .ok (.iinc 11 1, 3) := by decide +kernel
theorem dX9_ahead_234 : decode cX9_ahead 234 = .ok (.goto (-43), 3) := by decide +kernel
theorem dX9_ahead_237 : decode cX9_ahead 237 = .ok (.iload 9, 2) := by decide +kernel
theorem dX9_ahead_239 : decode cX9_ahead 239 = .ok (.ifCond .ne 6, 3) := by decide +kernel
theorem dX9_ahead_242 : decode cX9_ahead 242 = .ok (.iinc 6 1, 3) := by decide +kernel
theorem dX9_ahead_245 : decode cX9_ahead 245 = .ok (.iload 10, 2) := by decide +kernel
theorem dX9_ahead_247 : decode cX9_ahead 247 = .ok (.iload 7, 2) := by decide +kernel
theorem dX9_ahead_249 : decode cX9_ahead 249 = .ok (.if_icmp .le 8, 3) := by decide +kernel
theorem dX9_ahead_252 : decode cX9_ahead 252 = .ok (.iload 10, 2) := by decide +kernel
theorem dX9_ahead_254 : decode cX9_ahead 254 = .ok (.goto 5, 3) := by decide +kernel
theorem dX9_ahead_257 : decode cX9_ahead 257 = .ok (.iload 7, 2) := by decide +kernel
theorem dX9_ahead_259 : decode cX9_ahead 259 = .ok (.istore 7, 2) := by decide +kernel
theorem dX9_ahead_261 : decode cX9_ahead 261 = .ok (.iinc 8 1, 3) := by decide +kernel
theorem dX9_ahead_264 : decode cX9_ahead 264 = .ok (.goto (-89), 3) := by decide +kernel
theorem dX9_ahead_267 : decode cX9_ahead 267 = .ok (.iload_n 3, 1) := by decide +kernel
theorem dX9_ahead_268 : decode cX9_ahead 268 = .ok (.ifCond .ne 8, 3) := by decide +kernel
theorem dX9_ahead_271 : decode cX9_ahead 271 = .ok (.iload 6, 2) := by decide +kernel
theorem dX9_ahead_273 : decode cX9_ahead 273 = .ok (.goto 5, 3) := by decide +kernel
theorem dX9_ahead_276 : decode cX9_ahead 276 = .ok (.iload 7, 2) := by decide +kernel
theorem dX9_ahead_278 : decode cX9_ahead 278 = .ok (.ireturn, 1) := by decide +kernel
theorem dX9_wrongIn_0 : decode cX9_wrongIn 0 = .ok (.aload_n 0, 1) := by decide +kernel
theorem dX9_wrongIn_1 : decode cX9_wrongIn 1 = .ok (.aload_n 0, 1) := by decide +kernel
theorem dX9_wrongIn_2 : decode cX9_wrongIn 2 = .ok (.invokevirtual 239, 3) := by decide +kernel
theorem dX9_wrongIn_5 : decode cX9_wrongIn 5 = .ok (.putfield 286, 3) := by decide +kernel
theorem dX9_wrongIn_8 : decode cX9_wrongIn 8 = .ok (.iconst 0, 1) := by decide +kernel
theorem dX9_wrongIn_9 : decode cX9_wrongIn 9 = .ok (.istore_n 3, 1) := by decide +kernel
theorem dX9_wrongIn_10 : decode cX9_wrongIn 10 = .ok (.iload_n 3, 1) := by decide +kernel
theorem dX9_wrongIn_11 : decode cX9_wrongIn 11 = .ok (.iload_n 2, 1) := by decide +kernel
theorem dX9_wrongIn_12 : decode cX9_wrongIn 12 = .ok (.if_icmp .ge 76, 3) := by decide +kernel
theorem dX9_wrongIn_15 : decode cX9_wrongIn 15 = .ok (.aload_n 0, 1) := by decide +kernel
theorem dX9_wrongIn_16 : decode cX9_wrongIn 16 = .ok (.iload_n 1, 1) := by decide +kernel
theorem dX9_wrongIn_17 : decode cX9_wrongIn 17 = .ok (.iload_n 3, 1) := by decide +kernel
theorem dX9_wrongIn_18 : decode cX9_wrongIn 18 = .ok (.invokevirtual 283, 3) := by decide +kernel
theorem dX9_wrongIn_21 : decode cX9_wrongIn 21 = .ok (.istore 4, 2) := by decide +kernel
theorem dX9_wrongIn_23 : decode cX9_wrongIn 23 = .ok (.iload_n 3, 1) := by decide +kernel
theorem dX9_wrongIn_24 : decode cX9_wrongIn 24 = .ok (.iconst 2, 1) := by decide +kernel
theorem dX9_wrongIn_25 : decode cX9_wrongIn 25 = .ok (.irem, 1) := by decide +kernel
theorem dX9_wrongIn_26 : decode cX9_wrongIn 26 = .ok (.ifCond .ne 14, 3) := by decide +kernel
theorem dX9_wrongIn_29 : decode cX9_wrongIn 29 = .ok (.aload_n 0, 1) := by decide +kernel
theorem dX9_wrongIn_30 : decode cX9_wrongIn 30 = .ok (.iload 4, 2) := by decide +kernel
theorem dX9_wrongIn_32 : decode cX9_wrongIn 32 = .ok (.invokevirtual 248, 3) := by decide +kernel
theorem dX9_wrongIn_35 : decode cX9_wrongIn 35 = .ok (.ifCond .ne 47, 3) := by decide +kernel
theorem dX9_wrongIn_38 : decode cX9_wrongIn 38 = .ok (.iload_n 3, 1) := by decide +kernel
theorem dX9_wrongIn_39 : decode cX9_wrongIn 39 = .ok (.ireturn, 1) := by decide +kernel
theorem dX9_wrongIn_40 : decode cX9_wrongIn 40 = .ok (.aload_n 0, 1) := by decide +kernel
theorem dX9_wrongIn_41 : decode cX9_wrongIn 41 = .ok (.iload 4, 2) := by decide +kernel
theorem dX9_wrongIn_43 : decode cX9_wrongIn 43 = .ok (.invokevirtual 175, 3) := by decide +kernel
theorem dX9_wrongIn_46 : decode cX9_wrongIn 46 = .ok (.ifCond .ne 5, 3) := by decide +kernel
theorem dX9_wrongIn_49 : decode cX9_wrongIn 49 = .ok (.iload_n 3, 1) := by decide +kernel
theorem dX9_wrongIn_50 : decode cX9_wrongIn 50 = .ok (.ireturn, 1) := by decide +kernel
theorem dX9_wrongIn_51 : decode cX9_wrongIn 51 = .ok (.aload_n 0, 1) := by decide +kernel
theorem dX9_wrongIn_52 : decode cX9_wrongIn 52 = .ok (.aload_n 0, 1) := by decide +kernel
theorem dX9_wrongIn_53 : decode cX9_wrongIn 53 = .ok (.aload_n 0, 1) := by decide +kernel
theorem dX9_wrongIn_54 : decode cX9_wrongIn 54 = .ok (.getfield 286, 3) := by decide +kernel
theorem dX9_wrongIn_57 : decode cX9_wrongIn 57 = .ok (.aload_n 0, 1) := by decide +kernel
theorem dX9_wrongIn_58 : decode cX9_wrongIn 58 = .ok (.iload_n 1, 1) := by decide +kernel
theorem dX9_wrongIn_59 : decode cX9_wrongIn 59 = .ok (.iload_n 3, 1) := by decide +kernel
theorem dX9_wrongIn_60 : decode cX9_wrongIn 60 = .ok (.iconst 1, 1) := by decide +kernel
theorem dX9_wrongIn_61 : decode cX9_wrongIn 61 = .ok (.isub, 1) := by decide +kernel
theorem dX9_wrongIn_62 : decode cX9_wrongIn 62 = .ok (.invokevirtual 283, 3) := by decide +kernel
theorem dX9_wrongIn_65 : decode cX9_wrongIn 65 = .ok (.iload 4, 2) := by decide +kernel
theorem dX9_wrongIn_67 : decode cX9_wrongIn 67 = .ok (.invokevirtual 236, 3) := by decide +kernel
theorem dX9_wrongIn_70 : decode cX9_wrongIn 70 = .ok (.putfield 286, 3) := by decide +kernel
theorem dX9_wrongIn_73 : decode cX9_wrongIn 73 = .ok (.aload_n 0, 1) := by decide +kernel
theorem dX9_wrongIn_74 : decode cX9_wrongIn 74 = .ok (.getfield 286, 3) := by decide +kernel
theorem dX9_wrongIn_77 : decode cX9_wrongIn 77 = .ok (.ifCond .ne 5, 3) := by decide +kernel
theorem dX9_wrongIn_80 : decode cX9_wrongIn 80 = .ok (.iload_n 3, 1) := by decide +kernel
theorem dX9_wrongIn_81 : decode cX9_wrongIn 81 = .ok (.ireturn, 1) := by decide +kernel
theorem dX9_wrongIn_82 : decode cX9_wrongIn 82 = .ok (.iinc 3 1, 3) := by decide +kernel
theorem dX9_wrongIn_85 : decode cX9_wrongIn 85 = .ok (.goto (-75), 3) := by decide +kernel
theorem dX9_wrongIn_88 : decode cX9_wrongIn 88 = .ok (.iconst (-1), 1) := by decide +kernel
theorem dX9_wrongIn_89 : decode cX9_wrongIn 89 = .ok (.ireturn, 1) := by decide +kernel
theorem dX9_barsOf_0 : decode cX9_barsOf 0 = .ok (.aload_n 0, 1) := by decide +kernel
theorem dX9_barsOf_1 : decode cX9_barsOf 1 = .ok (.iload_n 1, 1) := by decide +kernel
theorem dX9_barsOf_2 : decode cX9_barsOf 2 = .ok (.iload_n 2, 1) := by decide +kernel
theorem dX9_barsOf_3 : decode cX9_barsOf 3 = .ok (.invokevirtual 280, 3) := by decide +kernel
theorem dX9_barsOf_6 : decode cX9_barsOf 6 = .ok (.istore_n 3, 1) := by decide +kernel
theorem dX9_barsOf_7 : decode cX9_barsOf 7 = .ok (.iload_n 3, 1) := by decide +kernel
theorem dX9_barsOf_8 : decode cX9_barsOf 8 = .ok (.ifCond .ne 14, 3) := by decide +kernel
theorem dX9_barsOf_11 : decode cX9_barsOf 11 = .ok (.iload_n 2, 1) := by decide +kernel
theorem dX9_barsOf_12 : decode cX9_barsOf 12 = .ok (.bipush 32, 2) := by decide +kernel
theorem dX9_barsOf_14 : decode cX9_barsOf 14 = .ok (.if_icmp .le 8, 3) := by decide +kernel
theorem dX9_barsOf_17 : decode cX9_barsOf 17 = .ok (.bipush (-6), 2) := by decide +kernel
theorem dX9_barsOf_19 : decode cX9_barsOf 19 = .ok (.goto 4, 3) := by decide +kernel
theorem dX9_barsOf_22 : decode cX9_barsOf 22 = .ok (.iload_n 3, 1) := by decide +kernel
theorem dX9_barsOf_23 : decode cX9_barsOf 23 = .ok (.ireturn, 1) := by decide +kernel
theorem dX9_judge_0 : decode cX9_judge 0 = .ok (.aload_n 0, 1) := by decide +kernel
theorem dX9_judge_1 : decode cX9_judge 1 = .ok (.iload_n 1, 1) := by decide +kernel
theorem dX9_judge_2 : decode cX9_judge 2 = .ok (.iload_n 2, 1) := by decide +kernel
theorem dX9_judge_3 : decode cX9_judge 3 = .ok (.invokevirtual 289, 3) := by decide +kernel
theorem dX9_judge_6 : decode cX9_judge 6 = .ok (.istore_n 3, 1) := by decide +kernel
theorem dX9_judge_7 : decode cX9_judge 7 = .ok (.iload_n 3, 1) := by decide +kernel
theorem dX9_judge_8 : decode cX9_judge 8 = .ok (.ifCond .eq 11, 3) := by decide +kernel
theorem dX9_judge_11 : decode cX9_judge 11 = .ok (.aload_n 0, 1) := by decide +kernel
theorem dX9_judge_12 : decode cX9_judge 12 = .ok (.iload_n 3, 1) := by decide +kernel
theorem dX9_judge_13 : decode cX9_judge 13 = .ok (.invokevirtual 292, 3) := by decide +kernel
theorem dX9_judge_16 : decode cX9_judge 16 = .ok (.goto 9, 3) := by decide +kernel
theorem dX9_judge_19 : decode cX9_judge 19 = .ok (.aload_n 0, 1) := by decide +kernel
theorem dX9_judge_20 : decode cX9_judge 20 = .ok (.iload_n 1, 1) := by decide +kernel
theorem dX9_judge_21 : decode cX9_judge 21 = .ok (.iload_n 2, 1) := by decide +kernel
theorem dX9_judge_22 : decode cX9_judge 22 = .ok (.invokevirtual 295, 3) := by decide +kernel
theorem dX9_judge_25 : decode cX9_judge 25 = .ok (.ireturn, 1) := by decide +kernel
theorem dX9_behind_0 : decode cX9_behind 0 = .ok (.aload_n 0, 1) := by decide +kernel
theorem dX9_behind_1 : decode cX9_behind 1 = .ok (.iload_n 1, 1) := by decide +kernel
theorem dX9_behind_2 : decode cX9_behind 2 = .ok (.iload_n 2, 1) := by decide +kernel
theorem dX9_behind_3 : decode cX9_behind 3 = .ok (.invokevirtual 289, 3) := by decide +kernel
theorem dX9_behind_6 : decode cX9_behind 6 = .ok (.istore_n 3, 1) := by decide +kernel
theorem dX9_behind_7 : decode cX9_behind 7 = .ok (.iload_n 3, 1) := by decide +kernel
theorem dX9_behind_8 : decode cX9_behind 8 = .ok (.ifCond .ne 23, 3) := by decide +kernel
theorem dX9_behind_11 : decode cX9_behind 11 = .ok (.iload_n 2, 1) := by decide +kernel
theorem dX9_behind_12 : decode cX9_behind 12 = .ok (.iconst 2, 1) := by decide +kernel
theorem dX9_behind_13 : decode cX9_behind 13 = .ok (.irem, 1) := by decide +kernel
theorem dX9_behind_14 : decode cX9_behind 14 = .ok (.iconst 1, 1) := by decide +kernel
theorem dX9_behind_15 : decode cX9_behind 15 = .ok (.if_icmp .eq 13, 3) := by decide +kernel
theorem dX9_behind_18 : decode cX9_behind 18 = .ok (.aload_n 0, 1) := by decide +kernel
theorem dX9_behind_19 : decode cX9_behind 19 = .ok (.iload_n 1, 1) := by decide +kernel
theorem dX9_behind_20 : decode cX9_behind 20 = .ok (.iload_n 2, 1) := by decide +kernel
theorem dX9_behind_21 : decode cX9_behind 21 = .ok (.invokevirtual 295, 3) := by decide +kernel
theorem dX9_behind_24 : decode cX9_behind 24 = .ok (.iconst (-1), 1) := by decide +kernel
theorem dX9_behind_25 : decode cX9_behind 25 = .ok (.if_icmp .eq 6, 3) := by decide +kernel
theorem dX9_behind_28 : decode cX9_behind 28 = .ok (.bipush (-6), 2) := by decide +kernel
theorem dX9_behind_30 : decode cX9_behind 30 = .ok (.istore_n 3, 1) := by decide +kernel
theorem dX9_behind_31 : decode cX9_behind 31 = .ok (.iload_n 3, 1) := by decide +kernel
theorem dX9_behind_32 : decode cX9_behind 32 = .ok (.ifCond .eq 11, 3) := by decide +kernel
theorem dX9_behind_35 : decode cX9_behind 35 = .ok (.aload_n 0, 1) := by decide +kernel
theorem dX9_behind_36 : decode cX9_behind 36 = .ok (.iload_n 3, 1) := by decide +kernel
theorem dX9_behind_37 : decode cX9_behind 37 = .ok (.invokevirtual 107, 3) := by decide +kernel
theorem dX9_behind_40 : decode cX9_behind 40 = .ok (.goto 7, 3) := by decide +kernel
theorem dX9_behind_43 : decode cX9_behind 43 = .ok (.aload_n 0, 1) := by decide +kernel
theorem dX9_behind_44 : decode cX9_behind 44 = .ok (.getfield 286, 3) := by decide +kernel
theorem dX9_behind_47 : decode cX9_behind 47 = .ok (.ireturn, 1) := by decide +kernel
theorem dX9_byEar_0 : decode cX9_byEar 0 = .ok (.aload_n 0, 1) := by decide +kernel
theorem dX9_byEar_1 : decode cX9_byEar 1 = .ok (.iload_n 1, 1) := by decide +kernel
theorem dX9_byEar_2 : decode cX9_byEar 2 = .ok (.iload_n 2, 1) := by decide +kernel
theorem dX9_byEar_3 : decode cX9_byEar 3 = .ok (.invokevirtual 280, 3) := by decide +kernel
theorem dX9_byEar_6 : decode cX9_byEar 6 = .ok (.istore_n 3, 1) := by decide +kernel
theorem dX9_byEar_7 : decode cX9_byEar 7 = .ok (.iload_n 3, 1) := by decide +kernel
theorem dX9_byEar_8 : decode cX9_byEar 8 = .ok (.ifCond .ne 13, 3) := by decide +kernel
theorem dX9_byEar_11 : decode cX9_byEar 11 = .ok (.aload_n 0, 1) := by decide +kernel
theorem dX9_byEar_12 : decode cX9_byEar 12 = .ok (.getfield 96, 3) := by decide +kernel
theorem dX9_byEar_15 : decode cX9_byEar 15 = .ok (.ifCond .ne 6, 3) := by decide +kernel
theorem dX9_byEar_18 : decode cX9_byEar 18 = .ok (.bipush (-5), 2) := by decide +kernel
theorem dX9_byEar_20 : decode cX9_byEar 20 = .ok (.istore_n 3, 1) := by decide +kernel
theorem dX9_byEar_21 : decode cX9_byEar 21 = .ok (.iload_n 3, 1) := by decide +kernel
theorem dX9_byEar_22 : decode cX9_byEar 22 = .ok (.ifCond .ne 19, 3) := by decide +kernel
theorem dX9_byEar_25 : decode cX9_byEar 25 = .ok (.iload_n 2, 1) := by decide +kernel
theorem dX9_byEar_26 : decode cX9_byEar 26 = .ok (.bipush 32, 2) := by decide +kernel
theorem dX9_byEar_28 : decode cX9_byEar 28 = .ok (.if_icmp .gt 10, 3) := by decide +kernel
theorem dX9_byEar_31 : decode cX9_byEar 31 = .ok (.iload_n 2, 1) := by decide +kernel
theorem dX9_byEar_32 : decode cX9_byEar 32 = .ok (.iconst 2, 1) := by decide +kernel
theorem dX9_byEar_33 : decode cX9_byEar 33 = .ok (.irem, 1) := by decide +kernel
theorem dX9_byEar_34 : decode cX9_byEar 34 = .ok (.iconst 1, 1) := by decide +kernel
theorem dX9_byEar_35 : decode cX9_byEar 35 = .ok (.if_icmp .ne 6, 3) := by decide +kernel
theorem dX9_byEar_38 : decode cX9_byEar 38 = .ok (.bipush (-6), 2) := by decide +kernel
theorem dX9_byEar_40 : decode cX9_byEar 40 = .ok (.istore_n 3, 1) := by decide +kernel
theorem dX9_byEar_41 : decode cX9_byEar 41 = .ok (.iconst 0, 1) := by decide +kernel
theorem dX9_byEar_42 : decode cX9_byEar 42 = .ok (.istore 4, 2) := by decide +kernel
theorem dX9_byEar_44 : decode cX9_byEar 44 = .ok (.iload 4, 2) := by decide +kernel
theorem dX9_byEar_46 : decode cX9_byEar 46 = .ok (.iload_n 2, 1) := by decide +kernel
theorem dX9_byEar_47 : decode cX9_byEar 47 = .ok (.if_icmp .ge 54, 3) := by decide +kernel
theorem dX9_byEar_50 : decode cX9_byEar 50 = .ok (.iload_n 3, 1) := by decide +kernel
theorem dX9_byEar_51 : decode cX9_byEar 51 = .ok (.ifCond .ne 50, 3) := by decide +kernel
theorem dX9_byEar_54 : decode cX9_byEar 54 = .ok (.iload 4, 2) := by decide +kernel
theorem dX9_byEar_56 : decode cX9_byEar 56 = .ok (.iconst 2, 1) := by decide +kernel
theorem dX9_byEar_57 : decode cX9_byEar 57 = .ok (.irem, 1) := by decide +kernel
theorem dX9_byEar_58 : decode cX9_byEar 58 = .ok (.ifCond .ne 20, 3) := by decide +kernel
theorem dX9_byEar_61 : decode cX9_byEar 61 = .ok (.aload_n 0, 1) := by decide +kernel
theorem dX9_byEar_62 : decode cX9_byEar 62 = .ok (.aload_n 0, 1) := by decide +kernel
theorem dX9_byEar_63 : decode cX9_byEar 63 = .ok (.iload_n 1, 1) := by decide +kernel
theorem dX9_byEar_64 : decode cX9_byEar 64 = .ok (.iload 4, 2) := by decide +kernel
theorem dX9_byEar_66 : decode cX9_byEar 66 = .ok (.invokevirtual 283, 3) := by decide +kernel
theorem dX9_byEar_69 : decode cX9_byEar 69 = .ok (.invokevirtual 172, 3) := by decide +kernel
theorem dX9_byEar_72 : decode cX9_byEar 72 = .ok (.ifCond .ne 23, 3) := by decide +kernel
theorem dX9_byEar_75 : decode cX9_byEar 75 = .ok (.goto 17, 3) := by decide +kernel
theorem dX9_byEar_78 : decode cX9_byEar 78 = .ok (.aload_n 0, 1) := by decide +kernel
theorem dX9_byEar_79 : decode cX9_byEar 79 = .ok (.aload_n 0, 1) := by decide +kernel
theorem dX9_byEar_80 : decode cX9_byEar 80 = .ok (.iload_n 1, 1) := by decide +kernel
theorem dX9_byEar_81 : decode cX9_byEar 81 = .ok (.iload 4, 2) := by decide +kernel
theorem dX9_byEar_83 : decode cX9_byEar 83 = .ok (.invokevirtual 283, 3) := by decide +kernel
theorem dX9_byEar_86 : decode cX9_byEar 86 = .ok (.invokevirtual 175, 3) := by decide +kernel
theorem dX9_byEar_89 : decode cX9_byEar 89 = .ok (.ifCond .ne 6, 3) := by decide +kernel
theorem dX9_byEar_92 : decode cX9_byEar 92 = .ok (.bipush (-6), 2) := by decide +kernel
theorem dX9_byEar_94 : decode cX9_byEar 94 = .ok (.istore_n 3, 1) := by decide +kernel
theorem dX9_byEar_95 : decode cX9_byEar 95 = .ok (.iinc 4 1, 3) := by decide +kernel
theorem dX9_byEar_98 : decode cX9_byEar 98 = .ok (.goto (-54), 3) := by decide +kernel
theorem dX9_byEar_101 : decode cX9_byEar 101 = .ok (.iload_n 3, 1) := by decide +kernel
theorem dX9_byEar_102 : decode cX9_byEar 102 = .ok (.ifCond .eq 9, 3) := by decide +kernel
theorem dX9_byEar_105 : decode cX9_byEar 105 = .ok (.aload_n 0, 1) := by decide +kernel
theorem dX9_byEar_106 : decode cX9_byEar 106 = .ok (.iload_n 3, 1) := by decide +kernel
theorem dX9_byEar_107 : decode cX9_byEar 107 = .ok (.invokevirtual 107, 3) := by decide +kernel
theorem dX9_byEar_110 : decode cX9_byEar 110 = .ok (.ireturn, 1) := by decide +kernel
theorem dX9_byEar_111 : decode cX9_byEar 111 = .ok (.aload_n 0, 1) := by decide +kernel
theorem dX9_byEar_112 : decode cX9_byEar 112 = .ok (.invokevirtual 233, 3) := by decide +kernel
theorem dX9_byEar_115 : decode cX9_byEar 115 = .ok (.istore 4, 2) := by decide +kernel
theorem dX9_byEar_117 : decode cX9_byEar 117 = .ok (.iconst 0, 1) := by decide +kernel
theorem dX9_byEar_118 : decode cX9_byEar 118 = .ok (.istore 5, 2) := by decide +kernel
theorem dX9_byEar_120 : decode cX9_byEar 120 = .ok (.iconst (-1), 1) := by decide +kernel
theorem dX9_byEar_121 : decode cX9_byEar 121 = .ok (.istore 6, 2) := by decide +kernel
theorem dX9_byEar_123 : decode cX9_byEar 123 = .ok (.iconst 0, 1) := by decide +kernel
theorem dX9_byEar_124 : decode cX9_byEar 124 = .ok (.istore 7, 2) := by decide +kernel
theorem dX9_byEar_126 : decode cX9_byEar 126 = .ok (.iload 7, 2) := by decide +kernel
theorem dX9_byEar_128 : decode cX9_byEar 128 = .ok (.iload 4, 2) := by decide +kernel
theorem dX9_byEar_130 : decode cX9_byEar 130 = .ok (.if_icmp .ge 132, 3) := by decide +kernel
theorem dX9_byEar_133 : decode cX9_byEar 133 = .ok (.sipush 10000, 3) := by decide +kernel
theorem dX9_byEar_136 : decode cX9_byEar 136 = .ok (.aload_n 0, 1) := by decide +kernel
theorem dX9_byEar_137 : decode cX9_byEar 137 = .ok (.aload_n 0, 1) := by decide +kernel
theorem dX9_byEar_138 : decode cX9_byEar 138 = .ok (.getfield 78, 3) := by decide +kernel
theorem dX9_byEar_141 : decode cX9_byEar 141 = .ok (.iload 7, 2) := by decide +kernel
theorem dX9_byEar_143 : decode cX9_byEar 143 = .ok (.iaload, 1) := by decide +kernel
theorem dX9_byEar_144 : decode cX9_byEar 144 = .ok (.invokevirtual 245, 3) := by decide +kernel
theorem dX9_byEar_147 : decode cX9_byEar 147 = .ok (.imul, 1) := by decide +kernel
theorem dX9_byEar_148 : decode cX9_byEar 148 = .ok (.istore 8, 2) := by decide +kernel
theorem dX9_byEar_150 : decode cX9_byEar 150 = .ok (.iconst 0, 1) := by decide +kernel
theorem dX9_byEar_151 : decode cX9_byEar 151 = .ok (.istore 9, 2) := by decide +kernel
theorem dX9_byEar_153 : decode cX9_byEar 153 = .ok (.iload 9, 2) := by decide +kernel
theorem dX9_byEar_155 : decode cX9_byEar 155 = .ok (.iload_n 2, 1) := by decide +kernel
theorem dX9_byEar_156 : decode cX9_byEar 156 = .ok (.if_icmp .ge 77, 3) := by decide +kernel
theorem dX9_byEar_159 : decode cX9_byEar 159 = .ok (.aload_n 0, 1) := by decide +kernel
theorem dX9_byEar_160 : decode cX9_byEar 160 = .ok (.aload_n 0, 1) := by decide +kernel
theorem dX9_byEar_161 : decode cX9_byEar 161 = .ok (.iload_n 1, 1) := by decide +kernel
theorem dX9_byEar_162 : decode cX9_byEar 162 = .ok (.iload 9, 2) := by decide +kernel
theorem dX9_byEar_164 : decode cX9_byEar 164 = .ok (.invokevirtual 283, 3) := by decide +kernel
theorem dX9_byEar_167 : decode cX9_byEar 167 = .ok (.aload_n 0, 1) := by decide +kernel
theorem dX9_byEar_168 : decode cX9_byEar 168 = .ok (.getfield 78, 3) := by decide +kernel
theorem dX9_byEar_171 : decode cX9_byEar 171 = .ok (.iload 7, 2) := by decide +kernel
theorem dX9_byEar_173 : decode cX9_byEar 173 = .ok (.iaload, 1) := by decide +kernel
theorem dX9_byEar_174 : decode cX9_byEar 174 = .ok (.invokevirtual 230, 3) := by decide +kernel
theorem dX9_byEar_177 : decode cX9_byEar 177 = .ok (.aload_n 0, 1) := by decide +kernel
theorem dX9_byEar_178 : decode cX9_byEar 178 = .ok (.iload_n 1, 1) := by decide +kernel
theorem dX9_byEar_179 : decode cX9_byEar 179 = .ok (.iload 9, 2) := by decide +kernel
theorem dX9_byEar_181 : decode cX9_byEar 181 = .ok (.iconst 1, 1) := by decide +kernel
theorem dX9_byEar_182 : decode cX9_byEar 182 = .ok (.iadd, 1) := by decide +kernel
theorem dX9_byEar_183 : decode cX9_byEar 183 = .ok (.invokevirtual 283, 3) := by decide +kernel
theorem dX9_byEar_186 : decode cX9_byEar 186 = .ok (.if_icmp .ne 7, 3) := by decide +kernel
theorem dX9_byEar_189 : decode cX9_byEar 189 = .ok (.iconst 1, 1) := by decide +kernel
theorem dX9_byEar_190 : decode cX9_byEar 190 = .ok (.goto 4, 3) := by decide +kernel
theorem dX9_byEar_193 : decode cX9_byEar 193 = .ok (.iconst 0, 1) := by decide +kernel
theorem dX9_byEar_194 : decode cX9_byEar 194 = .ok (.istore 10, 2) := by decide +kernel
theorem dX9_byEar_196 : decode cX9_byEar 196 = .ok (.iload 8, 2) := by decide +kernel
theorem dX9_byEar_198 : decode cX9_byEar 198 = .ok (.i2l, 1) := by decide +kernel
theorem dX9_byEar_199 : decode cX9_byEar 199 = .ok (.iload 10, 2) := by decide +kernel
theorem dX9_byEar_201 : decode cX9_byEar 201 = .ok (.ifCond .eq 13, 3) := by decide +kernel
theorem dX9_byEar_204 : decode cX9_byEar 204 = .ok (.bipush 100, 2) := by decide +kernel
theorem dX9_byEar_206 : decode cX9_byEar 206 = .ok (.aload_n 0, 1) := by decide +kernel
theorem dX9_byEar_207 : decode cX9_byEar 207 = .ok (.getfield 139, 3) := by decide +kernel
theorem dX9_byEar_210 : decode cX9_byEar 210 = .ok (.isub, 1) := by decide +kernel
theorem dX9_byEar_211 : decode cX9_byEar 211 = .ok (.goto 7, 3) := by decide +kernel
theorem dX9_byEar_214 : decode cX9_byEar 214 = .ok (.aload_n 0, 1) := by decide +kernel
theorem dX9_byEar_215 : decode cX9_byEar 215 = .ok (.getfield 139, 3) := by decide +kernel
theorem dX9_byEar_218 : decode cX9_byEar 218 = .ok (.i2l, 1) := by decide +kernel
theorem dX9_byEar_219 : decode cX9_byEar 219 = .ok (.lmul, 1) := by decide +kernel
theorem dX9_byEar_220 : decode cX9_byEar 220 = .ok (.ldc2_w 298, 3) := by decide +kernel
theorem dX9_byEar_223 : decode cX9_byEar 223 = .ok (.ldiv, 1) := by decide +kernel
theorem dX9_byEar_224 : decode cX9_byEar 224 = .ok (.l2i, 1) := by decide +kernel
theorem dX9_byEar_225 : decode cX9_byEar 225 = .ok (.istore 8, 2) := by decide +kernel
theorem dX9_byEar_227 : decode cX9_byEar 227 = .ok (.iinc 9 2, 3) := by decide +kernel
theorem dX9_byEar_230 : decode cX9_byEar 230 = .ok (.goto (-77), 3) := by decide +kernel
theorem dX9_byEar_233 : decode cX9_byEar 233 = .ok (.iload 8, 2) := by decide +kernel
theorem dX9_byEar_235 : decode cX9_byEar 235 = .ok (.iload 6, 2) := by decide +kernel
theorem dX9_byEar_237 : decode cX9_byEar 237 = .ok (.if_icmp .gt 6, 3) := by decide +kernel
theorem dX9_byEar_240 : decode cX9_byEar 240 = .ok (.goto 16, 3) := by decide +kernel
theorem dX9_byEar_243 : decode cX9_byEar 243 = .ok (.aload_n 0, 1) := by decide +kernel
theorem dX9_byEar_244 : decode cX9_byEar 244 = .ok (.getfield 78, 3) := by decide +kernel
theorem dX9_byEar_247 : decode cX9_byEar 247 = .ok (.iload 7, 2) := by decide +kernel
theorem dX9_byEar_249 : decode cX9_byEar 249 = .ok (.iaload, 1) := by decide +kernel
theorem dX9_byEar_250 : decode cX9_byEar 250 = .ok (.istore 5, 2) := by decide +kernel
theorem dX9_byEar_252 : decode cX9_byEar 252 = .ok (.iload 8, 2) := by decide +kernel
theorem dX9_byEar_254 : decode cX9_byEar 254 = .ok (.istore 6, 2) := by decide +kernel
theorem dX9_byEar_256 : decode cX9_byEar 256 = .ok (.iinc 7 1, 3) := by decide +kernel
theorem dX9_byEar_259 : decode cX9_byEar 259 = .ok (.goto (-133), 3) := by decide +kernel
theorem dX9_byEar_262 : decode cX9_byEar 262 = .ok (.iload 5, 2) := by decide +kernel
theorem dX9_byEar_264 : decode cX9_byEar 264 = .ok (.ireturn, 1) := by decide +kernel
theorem dX9_beside_0 : decode cX9_beside 0 = .ok (.aload_n 0, 1) := by decide +kernel
theorem dX9_beside_1 : decode cX9_beside 1 = .ok (.getfield 96, 3) := by decide +kernel
theorem dX9_beside_4 : decode cX9_beside 4 = .ok (.ifCond .eq 18, 3) := by decide +kernel
theorem dX9_beside_7 : decode cX9_beside 7 = .ok (.aload_n 0, 1) := by decide +kernel
theorem dX9_beside_8 : decode cX9_beside 8 = .ok (.aload_n 0, 1) := by decide +kernel
theorem dX9_beside_9 : decode cX9_beside 9 = .ok (.invokevirtual 99, 3) := by decide +kernel
theorem dX9_beside_12 : decode cX9_beside 12 = .ok (.aload_n 0, 1) := by decide +kernel
theorem dX9_beside_13 : decode cX9_beside 13 = .ok (.getfield 120, 3) := by decide +kernel
theorem dX9_beside_16 : decode cX9_beside 16 = .ok (.invokevirtual 230, 3) := by decide +kernel
theorem dX9_beside_19 : decode cX9_beside 19 = .ok (.ifCond .ne 5, 3) := by decide +kernel
theorem dX9_beside_22 : decode cX9_beside 22 = .ok (.iconst (-1), 1) := by decide +kernel
theorem dX9_beside_23 : decode cX9_beside 23 = .ok (.ireturn, 1) := by decide +kernel
theorem dX9_beside_24 : decode cX9_beside 24 = .ok (.iconst 0, 1) := by decide +kernel
theorem dX9_beside_25 : decode cX9_beside 25 = .ok (.istore_n 1, 1) := by decide +kernel
theorem dX9_beside_26 : decode cX9_beside 26 = .ok (.iload_n 1, 1) := by decide +kernel
theorem dX9_beside_27 : decode cX9_beside 27 = .ok (.aload_n 0, 1) := by decide +kernel
theorem dX9_beside_28 : decode cX9_beside 28 = .ok (.getfield 96, 3) := by decide +kernel
theorem dX9_beside_31 : decode cX9_beside 31 = .ok (.if_icmp .ge 63, 3) := by decide +kernel
theorem dX9_beside_34 : decode cX9_beside 34 = .ok (.iload_n 1, 1) := by decide +kernel
theorem dX9_beside_35 : decode cX9_beside 35 = .ok (.iconst 1, 1) := by decide +kernel
theorem dX9_beside_36 : decode cX9_beside 36 = .ok (.iadd, 1) := by decide +kernel
theorem dX9_beside_37 : decode cX9_beside 37 = .ok (.istore_n 2, 1) := by decide +kernel
theorem dX9_beside_38 : decode cX9_beside 38 = .ok (.iload_n 2, 1) := by decide +kernel
theorem dX9_beside_39 : decode cX9_beside 39 = .ok (.aload_n 0, 1) := by decide +kernel
theorem dX9_beside_40 : decode cX9_beside 40 = .ok (.getfield 96, 3) := by decide +kernel
theorem dX9_beside_43 : decode cX9_beside 43 = .ok (.if_icmp .ge 45, 3) := by decide +kernel
theorem dX9_beside_46 : decode cX9_beside 46 = .ok (.aload_n 0, 1) := by decide +kernel
theorem dX9_beside_47 : decode cX9_beside 47 = .ok (.iload_n 1, 1) := by decide +kernel
theorem dX9_beside_48 : decode cX9_beside 48 = .ok (.iload_n 2, 1) := by decide +kernel
theorem dX9_beside_49 : decode cX9_beside 49 = .ok (.invokevirtual 200, 3) := by decide +kernel
theorem dX9_beside_52 : decode cX9_beside 52 = .ok (.aload_n 0, 1) := by decide +kernel
theorem dX9_beside_53 : decode cX9_beside 53 = .ok (.aload_n 0, 1) := by decide +kernel
theorem dX9_beside_54 : decode cX9_beside 54 = .ok (.invokevirtual 99, 3) := by decide +kernel
theorem dX9_beside_57 : decode cX9_beside 57 = .ok (.aload_n 0, 1) := by decide +kernel
theorem dX9_beside_58 : decode cX9_beside 58 = .ok (.getfield 120, 3) := by decide +kernel
theorem dX9_beside_61 : decode cX9_beside 61 = .ok (.invokevirtual 230, 3) := by decide +kernel
theorem dX9_beside_64 : decode cX9_beside 64 = .ok (.istore_n 3, 1) := by decide +kernel
theorem dX9_beside_65 : decode cX9_beside 65 = .ok (.aload_n 0, 1) := by decide +kernel
theorem dX9_beside_66 : decode cX9_beside 66 = .ok (.iload_n 1, 1) := by decide +kernel
theorem dX9_beside_67 : decode cX9_beside 67 = .ok (.iload_n 2, 1) := by decide +kernel
theorem dX9_beside_68 : decode cX9_beside 68 = .ok (.invokevirtual 200, 3) := by decide +kernel
theorem dX9_beside_71 : decode cX9_beside 71 = .ok (.iload_n 3, 1) := by decide +kernel
theorem dX9_beside_72 : decode cX9_beside 72 = .ok (.ifCond .ne 10, 3) := by decide +kernel
theorem dX9_beside_75 : decode cX9_beside 75 = .ok (.bipush 100, 2) := by decide +kernel
theorem dX9_beside_77 : decode cX9_beside 77 = .ok (.iload_n 1, 1) := by decide +kernel
theorem dX9_beside_78 : decode cX9_beside 78 = .ok (.imul, 1) := by decide +kernel
theorem dX9_beside_79 : decode cX9_beside 79 = .ok (.iload_n 2, 1) := by decide +kernel
theorem dX9_beside_80 : decode cX9_beside 80 = .ok (.iadd, 1) := by decide +kernel
theorem dX9_beside_81 : decode cX9_beside 81 = .ok (.ireturn, 1) := by decide +kernel
theorem dX9_beside_82 : decode cX9_beside 82 = .ok (.iinc 2 1, 3) := by decide +kernel
theorem dX9_beside_85 : decode cX9_beside 85 = .ok (.goto (-47), 3) := by decide +kernel
theorem dX9_beside_88 : decode cX9_beside 88 = .ok (.iinc 1 1, 3) := by decide +kernel
theorem dX9_beside_91 : decode cX9_beside 91 = .ok (.goto (-65), 3) := by decide +kernel
theorem dX9_beside_94 : decode cX9_beside 94 = .ok (.iconst (-1), 1) := by decide +kernel
theorem dX9_beside_95 : decode cX9_beside 95 = .ok (.ireturn, 1) := by decide +kernel
theorem dX9_right_0 : decode cX9_right 0 = .ok (.aload_n 0, 1) := by decide +kernel
theorem dX9_right_1 : decode cX9_right 1 = .ok (.invokevirtual 233, 3) := by decide +kernel
theorem dX9_right_4 : decode cX9_right 4 = .ok (.istore_n 1, 1) := by decide +kernel
theorem dX9_right_5 : decode cX9_right 5 = .ok (.iconst 0, 1) := by decide +kernel
theorem dX9_right_6 : decode cX9_right 6 = .ok (.istore_n 2, 1) := by decide +kernel
theorem dX9_right_7 : decode cX9_right 7 = .ok (.iconst 0, 1) := by decide +kernel
theorem dX9_right_8 : decode cX9_right 8 = .ok (.istore_n 3, 1) := by decide +kernel
theorem dX9_right_9 : decode cX9_right 9 = .ok (.iload_n 3, 1) := by decide +kernel
theorem dX9_right_10 : decode cX9_right 10 = .ok (.iload_n 1, 1) := by decide +kernel
theorem dX9_right_11 : decode cX9_right 11 = .ok (.if_icmp .ge 28, 3) := by decide +kernel
theorem dX9_right_14 : decode cX9_right 14 = .ok (.iload_n 2, 1) := by decide +kernel
theorem dX9_right_15 : decode cX9_right 15 = .ok (.iconst 1, 1) := by decide +kernel
theorem dX9_right_16 : decode cX9_right 16 = .ok (.aload_n 0, 1) := by decide +kernel
theorem dX9_right_17 : decode cX9_right 17 = .ok (.aload_n 0, 1) := by decide +kernel
theorem dX9_right_18 : decode cX9_right 18 = .ok (.invokevirtual 99, 3) := by decide +kernel
theorem dX9_right_21 : decode cX9_right 21 = .ok (.aload_n 0, 1) := by decide +kernel
theorem dX9_right_22 : decode cX9_right 22 = .ok (.getfield 78, 3) := by decide +kernel
theorem dX9_right_25 : decode cX9_right 25 = .ok (.iload_n 3, 1) := by decide +kernel
theorem dX9_right_26 : decode cX9_right 26 = .ok (.iaload, 1) := by decide +kernel
theorem dX9_right_27 : decode cX9_right 27 = .ok (.invokevirtual 230, 3) := by decide +kernel
theorem dX9_right_30 : decode cX9_right 30 = .ok (.isub, 1) := by decide +kernel
theorem dX9_right_31 : decode cX9_right 31 = .ok (.iadd, 1) := by decide +kernel
theorem dX9_right_32 : decode cX9_right 32 = .ok (.istore_n 2, 1) := by decide +kernel
theorem dX9_right_33 : decode cX9_right 33 = .ok (.iinc 3 1, 3) := by decide +kernel
theorem dX9_right_36 : decode cX9_right 36 = .ok (.goto (-27), 3) := by decide +kernel
theorem dX9_right_39 : decode cX9_right 39 = .ok (.iload_n 2, 1) := by decide +kernel
theorem dX9_right_40 : decode cX9_right 40 = .ok (.ireturn, 1) := by decide +kernel
theorem dX9_quiet_0 : decode cX9_quiet 0 = .ok (.aload_n 0, 1) := by decide +kernel
theorem dX9_quiet_1 : decode cX9_quiet 1 = .ok (.getfield 96, 3) := by decide +kernel
theorem dX9_quiet_4 : decode cX9_quiet 4 = .ok (.ifCond .ne 10, 3) := by decide +kernel
theorem dX9_quiet_7 : decode cX9_quiet 7 = .ok (.aload_n 0, 1) := by decide +kernel
theorem dX9_quiet_8 : decode cX9_quiet 8 = .ok (.bipush (-5), 2) := by decide +kernel
theorem dX9_quiet_10 : decode cX9_quiet 10 = .ok (.invokevirtual 107, 3) := by decide +kernel
theorem dX9_quiet_13 : decode cX9_quiet 13 = .ok (.ireturn, 1) := by decide +kernel
theorem dX9_quiet_14 : decode cX9_quiet 14 = .ok (.aload_n 0, 1) := by decide +kernel
theorem dX9_quiet_15 : decode cX9_quiet 15 = .ok (.invokevirtual 300, 3) := by decide +kernel
theorem dX9_quiet_18 : decode cX9_quiet 18 = .ok (.istore_n 1, 1) := by decide +kernel
theorem dX9_quiet_19 : decode cX9_quiet 19 = .ok (.iconst 0, 1) := by decide +kernel
theorem dX9_quiet_20 : decode cX9_quiet 20 = .ok (.istore_n 2, 1) := by decide +kernel
theorem dX9_quiet_21 : decode cX9_quiet 21 = .ok (.iload_n 2, 1) := by decide +kernel
theorem dX9_quiet_22 : decode cX9_quiet 22 = .ok (.aload_n 0, 1) := by decide +kernel
theorem dX9_quiet_23 : decode cX9_quiet 23 = .ok (.getfield 96, 3) := by decide +kernel
theorem dX9_quiet_26 : decode cX9_quiet 26 = .ok (.if_icmp .ge 58, 3) := by decide +kernel
theorem dX9_quiet_29 : decode cX9_quiet 29 = .ok (.iload_n 2, 1) := by decide +kernel
theorem dX9_quiet_30 : decode cX9_quiet 30 = .ok (.iconst 1, 1) := by decide +kernel
theorem dX9_quiet_31 : decode cX9_quiet 31 = .ok (.iadd, 1) := by decide +kernel
theorem dX9_quiet_32 : decode cX9_quiet 32 = .ok (.istore_n 3, 1) := by decide +kernel
theorem dX9_quiet_33 : decode cX9_quiet 33 = .ok (.iload_n 3, 1) := by decide +kernel
theorem dX9_quiet_34 : decode cX9_quiet 34 = .ok (.aload_n 0, 1) := by decide +kernel
theorem dX9_quiet_35 : decode cX9_quiet 35 = .ok (.getfield 96, 3) := by decide +kernel
theorem dX9_quiet_38 : decode cX9_quiet 38 = .ok (.if_icmp .ge 40, 3) := by decide +kernel
theorem dX9_quiet_41 : decode cX9_quiet 41 = .ok (.aload_n 0, 1) := by decide +kernel
theorem dX9_quiet_42 : decode cX9_quiet 42 = .ok (.iload_n 2, 1) := by decide +kernel
theorem dX9_quiet_43 : decode cX9_quiet 43 = .ok (.iload_n 3, 1) := by decide +kernel
theorem dX9_quiet_44 : decode cX9_quiet 44 = .ok (.invokevirtual 200, 3) := by decide +kernel
theorem dX9_quiet_47 : decode cX9_quiet 47 = .ok (.aload_n 0, 1) := by decide +kernel
theorem dX9_quiet_48 : decode cX9_quiet 48 = .ok (.invokevirtual 300, 3) := by decide +kernel
theorem dX9_quiet_51 : decode cX9_quiet 51 = .ok (.istore 4, 2) := by decide +kernel
theorem dX9_quiet_53 : decode cX9_quiet 53 = .ok (.aload_n 0, 1) := by decide +kernel
theorem dX9_quiet_54 : decode cX9_quiet 54 = .ok (.iload_n 2, 1) := by decide +kernel
theorem dX9_quiet_55 : decode cX9_quiet 55 = .ok (.iload_n 3, 1) := by decide +kernel
theorem dX9_quiet_56 : decode cX9_quiet 56 = .ok (.invokevirtual 200, 3) := by decide +kernel
theorem dX9_quiet_59 : decode cX9_quiet 59 = .ok (.iload 4, 2) := by decide +kernel
theorem dX9_quiet_61 : decode cX9_quiet 61 = .ok (.iload_n 1, 1) := by decide +kernel
theorem dX9_quiet_62 : decode cX9_quiet 62 = .ok (.if_icmp .le 8, 3) := by decide +kernel
theorem dX9_quiet_65 : decode cX9_quiet 65 = .ok (.iload 4, 2) := by decide +kernel
theorem dX9_quiet_67 : decode cX9_quiet 67 = .ok (.goto 4, 3) := by decide +kernel
theorem dX9_quiet_70 : decode cX9_quiet 70 = .ok (.iload_n 1, 1) := by decide +kernel
theorem dX9_quiet_71 : decode cX9_quiet 71 = .ok (.istore_n 1, 1) := by decide +kernel
theorem dX9_quiet_72 : decode cX9_quiet 72 = .ok (.iinc 3 1, 3) := by decide +kernel
theorem dX9_quiet_75 : decode cX9_quiet 75 = .ok (.goto (-42), 3) := by decide +kernel
theorem dX9_quiet_78 : decode cX9_quiet 78 = .ok (.iinc 2 1, 3) := by decide +kernel
theorem dX9_quiet_81 : decode cX9_quiet 81 = .ok (.goto (-60), 3) := by decide +kernel
theorem dX9_quiet_84 : decode cX9_quiet 84 = .ok (.iload_n 1, 1) := by decide +kernel
theorem dX9_quiet_85 : decode cX9_quiet 85 = .ok (.ireturn, 1) := by decide +kernel
theorem dX9_swap_0 : decode cX9_swap 0 = .ok (.aload_n 0, 1) := by decide +kernel
theorem dX9_swap_1 : decode cX9_swap 1 = .ok (.iload_n 1, 1) := by decide +kernel
theorem dX9_swap_2 : decode cX9_swap 2 = .ok (.invokevirtual 111, 3) := by decide +kernel
theorem dX9_swap_5 : decode cX9_swap 5 = .ok (.ifCond .eq 11, 3) := by decide +kernel
theorem dX9_swap_8 : decode cX9_swap 8 = .ok (.aload_n 0, 1) := by decide +kernel
theorem dX9_swap_9 : decode cX9_swap 9 = .ok (.iload_n 2, 1) := by decide +kernel
theorem dX9_swap_10 : decode cX9_swap 10 = .ok (.invokevirtual 111, 3) := by decide +kernel
theorem dX9_swap_13 : decode cX9_swap 13 = .ok (.ifCond .ne 9, 3) := by decide +kernel
theorem dX9_swap_16 : decode cX9_swap 16 = .ok (.aload_n 0, 1) := by decide +kernel
theorem dX9_swap_17 : decode cX9_swap 17 = .ok (.iconst (-1), 1) := by decide +kernel
theorem dX9_swap_18 : decode cX9_swap 18 = .ok (.invokevirtual 107, 3) := by decide +kernel
theorem dX9_swap_21 : decode cX9_swap 21 = .ok (.ireturn, 1) := by decide +kernel
theorem dX9_swap_22 : decode cX9_swap 22 = .ok (.iload_n 1, 1) := by decide +kernel
theorem dX9_swap_23 : decode cX9_swap 23 = .ok (.iload_n 2, 1) := by decide +kernel
theorem dX9_swap_24 : decode cX9_swap 24 = .ok (.if_icmp .ne 10, 3) := by decide +kernel
theorem dX9_swap_27 : decode cX9_swap 27 = .ok (.aload_n 0, 1) := by decide +kernel
theorem dX9_swap_28 : decode cX9_swap 28 = .ok (.bipush (-6), 2) := by decide +kernel
theorem dX9_swap_30 : decode cX9_swap 30 = .ok (.invokevirtual 107, 3) := by decide +kernel
theorem dX9_swap_33 : decode cX9_swap 33 = .ok (.ireturn, 1) := by decide +kernel
theorem dX9_swap_34 : decode cX9_swap 34 = .ok (.aload_n 0, 1) := by decide +kernel
theorem dX9_swap_35 : decode cX9_swap 35 = .ok (.iload_n 1, 1) := by decide +kernel
theorem dX9_swap_36 : decode cX9_swap 36 = .ok (.iload_n 2, 1) := by decide +kernel
theorem dX9_swap_37 : decode cX9_swap 37 = .ok (.invokevirtual 200, 3) := by decide +kernel
theorem dX9_swap_40 : decode cX9_swap 40 = .ok (.aload_n 0, 1) := by decide +kernel
theorem dX9_swap_41 : decode cX9_swap 41 = .ok (.invokevirtual 126, 3) := by decide +kernel
theorem dX9_swap_44 : decode cX9_swap 44 = .ok (.iconst 1, 1) := by decide +kernel
theorem dX9_swap_45 : decode cX9_swap 45 = .ok (.ireturn, 1) := by decide +kernel
theorem dX9_isTrue_0 : decode cX9_isTrue 0 = .ok (.aload_n 0, 1) := by decide +kernel
theorem dX9_isTrue_1 : decode cX9_isTrue 1 = .ok (.iload_n 1, 1) := by decide +kernel
theorem dX9_isTrue_2 : decode cX9_isTrue 2 = .ok (.invokevirtual 242, 3) := by decide +kernel
theorem dX9_isTrue_5 : decode cX9_isTrue 5 = .ok (.ifCond .ne 10, 3) := by decide +kernel
theorem dX9_isTrue_8 : decode cX9_isTrue 8 = .ok (.aload_n 0, 1) := by decide +kernel
theorem dX9_isTrue_9 : decode cX9_isTrue 9 = .ok (.bipush (-6), 2) := by decide +kernel
theorem dX9_isTrue_11 : decode cX9_isTrue 11 = .ok (.invokevirtual 107, 3) := by decide +kernel
theorem dX9_isTrue_14 : decode cX9_isTrue 14 = .ok (.ireturn, 1) := by decide +kernel
theorem dX9_isTrue_15 : decode cX9_isTrue 15 = .ok (.aload_n 0, 1) := by decide +kernel
theorem dX9_isTrue_16 : decode cX9_isTrue 16 = .ok (.getfield 120, 3) := by decide +kernel
theorem dX9_isTrue_19 : decode cX9_isTrue 19 = .ok (.istore_n 2, 1) := by decide +kernel
theorem dX9_isTrue_20 : decode cX9_isTrue 20 = .ok (.aload_n 0, 1) := by decide +kernel
theorem dX9_isTrue_21 : decode cX9_isTrue 21 = .ok (.iload_n 1, 1) := by decide +kernel
theorem dX9_isTrue_22 : decode cX9_isTrue 22 = .ok (.putfield 120, 3) := by decide +kernel
theorem dX9_isTrue_25 : decode cX9_isTrue 25 = .ok (.aload_n 0, 1) := by decide +kernel
theorem dX9_isTrue_26 : decode cX9_isTrue 26 = .ok (.iconst 0, 1) := by decide +kernel
theorem dX9_isTrue_27 : decode cX9_isTrue 27 = .ok (.putfield 123, 3) := by decide +kernel
theorem dX9_isTrue_30 : decode cX9_isTrue 30 = .ok (.iload_n 2, 1) := by decide +kernel
theorem dX9_isTrue_31 : decode cX9_isTrue 31 = .ok (.ireturn, 1) := by decide +kernel
theorem dX9_isKnown_0 : decode cX9_isKnown 0 = .ok (.iconst 0, 1) := by decide +kernel
theorem dX9_isKnown_1 : decode cX9_isKnown 1 = .ok (.istore_n 3, 1) := by decide +kernel
theorem dX9_isKnown_2 : decode cX9_isKnown 2 = .ok (.iload_n 3, 1) := by decide +kernel
theorem dX9_isKnown_3 : decode cX9_isKnown 3 = .ok (.aload_n 0, 1) := by decide +kernel
theorem dX9_isKnown_4 : decode cX9_isKnown 4 = .ok (.getfield 123, 3) := by decide +kernel
theorem dX9_isKnown_7 : decode cX9_isKnown 7 = .ok (.if_icmp .ge 31, 3) := by decide +kernel
theorem dX9_isKnown_10 : decode cX9_isKnown 10 = .ok (.aload_n 0, 1) := by decide +kernel
theorem dX9_isKnown_11 : decode cX9_isKnown 11 = .ok (.getfield 38, 3) := by decide +kernel
theorem dX9_isKnown_14 : decode cX9_isKnown 14 = .ok (.iload_n 3, 1) := by decide +kernel
theorem dX9_isKnown_15 : decode cX9_isKnown 15 = .ok (.iaload, 1) := by decide +kernel
theorem dX9_isKnown_16 : decode cX9_isKnown 16 = .ok (.iload_n 1, 1) := by decide +kernel
theorem dX9_isKnown_17 : decode cX9_isKnown 17 = .ok (.if_icmp .ne 15, 3) := by decide +kernel
theorem dX9_isKnown_20 : decode cX9_isKnown 20 = .ok (.aload_n 0, 1) := by decide +kernel
theorem dX9_isKnown_21 : decode cX9_isKnown 21 = .ok (.getfield 41, 3) := by decide +kernel
theorem dX9_isKnown_24 : decode cX9_isKnown 24 = .ok (.iload_n 3, 1) := by decide +kernel
theorem dX9_isKnown_25 : decode cX9_isKnown 25 = .ok (.iaload, 1) := by decide +kernel
theorem dX9_isKnown_26 : decode cX9_isKnown 26 = .ok (.iload_n 2, 1) := by decide +kernel
theorem dX9_isKnown_27 : decode cX9_isKnown 27 = .ok (.if_icmp .ne 5, 3) := by decide +kernel
theorem dX9_isKnown_30 : decode cX9_isKnown 30 = .ok (.iconst 1, 1) := by decide +kernel
theorem dX9_isKnown_31 : decode cX9_isKnown 31 = .ok (.ireturn, 1) := by decide +kernel
theorem dX9_isKnown_32 : decode cX9_isKnown 32 = .ok (.iinc 3 1, 3) := by decide +kernel
theorem dX9_isKnown_35 : decode cX9_isKnown 35 = .ok (.goto (-33), 3) := by decide +kernel
theorem dX9_isKnown_38 : decode cX9_isKnown 38 = .ok (.iconst 0, 1) := by decide +kernel
theorem dX9_isKnown_39 : decode cX9_isKnown 39 = .ok (.ireturn, 1) := by decide +kernel
theorem dX9_hear_0 : decode cX9_hear 0 = .ok (.aload_n 0, 1) := by decide +kernel
theorem dX9_hear_1 : decode cX9_hear 1 = .ok (.iload_n 1, 1) := by decide +kernel
theorem dX9_hear_2 : decode cX9_hear 2 = .ok (.invokevirtual 248, 3) := by decide +kernel
theorem dX9_hear_5 : decode cX9_hear 5 = .ok (.ifCond .ne 10, 3) := by decide +kernel
theorem dX9_hear_8 : decode cX9_hear 8 = .ok (.aload_n 0, 1) := by decide +kernel
theorem dX9_hear_9 : decode cX9_hear 9 = .ok (.bipush (-6), 2) := by decide +kernel
theorem dX9_hear_11 : decode cX9_hear 11 = .ok (.invokevirtual 107, 3) := by decide +kernel
theorem dX9_hear_14 : decode cX9_hear 14 = .ok (.ireturn, 1) := by decide +kernel
theorem dX9_hear_15 : decode cX9_hear 15 = .ok (.aload_n 0, 1) := by decide +kernel
theorem dX9_hear_16 : decode cX9_hear 16 = .ok (.iload_n 1, 1) := by decide +kernel
theorem dX9_hear_17 : decode cX9_hear 17 = .ok (.aload_n 0, 1) := by decide +kernel
theorem dX9_hear_18 : decode cX9_hear 18 = .ok (.getfield 120, 3) := by decide +kernel
theorem dX9_hear_21 : decode cX9_hear 21 = .ok (.invokevirtual 230, 3) := by decide +kernel
theorem dX9_hear_24 : decode cX9_hear 24 = .ok (.istore_n 2, 1) := by decide +kernel
theorem dX9_hear_25 : decode cX9_hear 25 = .ok (.aload_n 0, 1) := by decide +kernel
theorem dX9_hear_26 : decode cX9_hear 26 = .ok (.iload_n 1, 1) := by decide +kernel
theorem dX9_hear_27 : decode cX9_hear 27 = .ok (.iload_n 2, 1) := by decide +kernel
theorem dX9_hear_28 : decode cX9_hear 28 = .ok (.invokevirtual 193, 3) := by decide +kernel
theorem dX9_hear_31 : decode cX9_hear 31 = .ok (.ifCond .eq 5, 3) := by decide +kernel
theorem dX9_hear_34 : decode cX9_hear 34 = .ok (.iload_n 2, 1) := by decide +kernel
theorem dX9_hear_35 : decode cX9_hear 35 = .ok (.ireturn, 1) := by decide +kernel
theorem dX9_hear_36 : decode cX9_hear 36 = .ok (.aload_n 0, 1) := by decide +kernel
theorem dX9_hear_37 : decode cX9_hear 37 = .ok (.getfield 123, 3) := by decide +kernel
theorem dX9_hear_40 : decode cX9_hear 40 = .ok (.bipush 16, 2) := by decide +kernel
theorem dX9_hear_42 : decode cX9_hear 42 = .ok (.if_icmp .ne 10, 3) := by decide +kernel
theorem dX9_hear_45 : decode cX9_hear 45 = .ok (.aload_n 0, 1) := by decide +kernel
theorem dX9_hear_46 : decode cX9_hear 46 = .ok (.bipush (-7), 2) := by decide +kernel
theorem dX9_hear_48 : decode cX9_hear 48 = .ok (.invokevirtual 107, 3) := by decide +kernel
theorem dX9_hear_51 : decode cX9_hear 51 = .ok (.ireturn, 1) := by decide +kernel
theorem dX9_hear_52 : decode cX9_hear 52 = .ok (.aload_n 0, 1) := by decide +kernel
theorem dX9_hear_53 : decode cX9_hear 53 = .ok (.iload_n 1, 1) := by decide +kernel
theorem dX9_hear_54 : decode cX9_hear 54 = .ok (.iload_n 2, 1) := by decide +kernel
theorem dX9_hear_55 : decode cX9_hear 55 = .ok (.invokevirtual 196, 3) := by decide +kernel
theorem dX9_hear_58 : decode cX9_hear 58 = .ok (.iload_n 2, 1) := by decide +kernel
theorem dX9_hear_59 : decode cX9_hear 59 = .ok (.ireturn, 1) := by decide +kernel
theorem dX9_draw_0 : decode cX9_draw 0 = .ok (.aload_n 0, 1) := by decide +kernel
theorem dX9_draw_1 : decode cX9_draw 1 = .ok (.aload_n 0, 1) := by decide +kernel
theorem dX9_draw_2 : decode cX9_draw 2 = .ok (.getfield 16, 3) := by decide +kernel
theorem dX9_draw_5 : decode cX9_draw 5 = .ok (.ldc_w 303, 3) := by decide +kernel
theorem dX9_draw_8 : decode cX9_draw 8 = .ok (.imul, 1) := by decide +kernel
theorem dX9_draw_9 : decode cX9_draw 9 = .ok (.sipush 12345, 3) := by decide +kernel
theorem dX9_draw_12 : decode cX9_draw 12 = .ok (.iadd, 1) := by decide +kernel
theorem dX9_draw_13 : decode cX9_draw 13 = .ok (.putfield 16, 3) := by decide +kernel
theorem dX9_draw_16 : decode cX9_draw 16 = .ok (.aload_n 0, 1) := by decide +kernel
theorem dX9_draw_17 : decode cX9_draw 17 = .ok (.getfield 16, 3) := by decide +kernel
theorem dX9_draw_20 : decode cX9_draw 20 = .ok (.bipush 16, 2) := by decide +kernel
theorem dX9_draw_22 : decode cX9_draw 22 = .ok (.iushr, 1) := by decide +kernel
theorem dX9_draw_23 : decode cX9_draw 23 = .ok (.iload_n 1, 1) := by decide +kernel
theorem dX9_draw_24 : decode cX9_draw 24 = .ok (.irem, 1) := by decide +kernel
theorem dX9_draw_25 : decode cX9_draw 25 = .ok (.ireturn, 1) := by decide +kernel
theorem dX9_evening_0 : decode cX9_evening 0 = .ok (.aload_n 0, 1) := by decide +kernel
theorem dX9_evening_1 : decode cX9_evening 1 = .ok (.aload_n 0, 1) := by decide +kernel
theorem dX9_evening_2 : decode cX9_evening 2 = .ok (.getfield 78, 3) := by decide +kernel
theorem dX9_evening_5 : decode cX9_evening 5 = .ok (.aload_n 0, 1) := by decide +kernel
theorem dX9_evening_6 : decode cX9_evening 6 = .ok (.aload_n 0, 1) := by decide +kernel
theorem dX9_evening_7 : decode cX9_evening 7 = .ok (.getfield 227, 3) := by decide +kernel
theorem dX9_evening_10 : decode cX9_evening 10 = .ok (.invokevirtual 304, 3) := by decide +kernel
theorem dX9_evening_13 : decode cX9_evening 13 = .ok (.iaload, 1) := by decide +kernel
theorem dX9_evening_14 : decode cX9_evening 14 = .ok (.putfield 120, 3) := by decide +kernel
theorem dX9_evening_17 : decode cX9_evening 17 = .ok (.aload_n 0, 1) := by decide +kernel
theorem dX9_evening_18 : decode cX9_evening 18 = .ok (.iconst 0, 1) := by decide +kernel
theorem dX9_evening_19 : decode cX9_evening 19 = .ok (.putfield 123, 3) := by decide +kernel
theorem dX9_evening_22 : decode cX9_evening 22 = .ok (.aload_n 0, 1) := by decide +kernel
theorem dX9_evening_23 : decode cX9_evening 23 = .ok (.getfield 227, 3) := by decide +kernel
theorem dX9_evening_26 : decode cX9_evening 26 = .ok (.istore_n 1, 1) := by decide +kernel
theorem dX9_evening_27 : decode cX9_evening 27 = .ok (.iconst 0, 1) := by decide +kernel
theorem dX9_evening_28 : decode cX9_evening 28 = .ok (.istore_n 2, 1) := by decide +kernel
theorem dX9_evening_29 : decode cX9_evening 29 = .ok (.iconst 0, 1) := by decide +kernel
theorem dX9_evening_30 : decode cX9_evening 30 = .ok (.istore_n 3, 1) := by decide +kernel
theorem dX9_evening_31 : decode cX9_evening 31 = .ok (.iconst 0, 1) := by decide +kernel
theorem dX9_evening_32 : decode cX9_evening 32 = .ok (.istore 4, 2) := by decide +kernel
theorem dX9_evening_34 : decode cX9_evening 34 = .ok (.iload 4, 2) := by decide +kernel
theorem dX9_evening_36 : decode cX9_evening 36 = .ok (.iload_n 1, 1) := by decide +kernel
theorem dX9_evening_37 : decode cX9_evening 37 = .ok (.if_icmp .ge 18, 3) := by decide +kernel
theorem dX9_evening_40 : decode cX9_evening 40 = .ok (.aload_n 0, 1) := by decide +kernel
theorem dX9_evening_41 : decode cX9_evening 41 = .ok (.getfield 87, 3) := by decide +kernel
theorem dX9_evening_44 : decode cX9_evening 44 = .ok (.iload 4, 2) := by decide +kernel
theorem dX9_evening_46 : decode cX9_evening 46 = .ok (.iload 4, 2) := by decide +kernel
theorem dX9_evening_48 : decode cX9_evening 48 = .ok (.iastore, 1) := by decide +kernel
theorem dX9_evening_49 : decode cX9_evening 49 = .ok (.iinc 4 1, 3) := by decide +kernel
theorem dX9_evening_52 : decode cX9_evening 52 = .ok (.goto (-18), 3) := by decide +kernel
theorem dX9_evening_55 : decode cX9_evening 55 = .ok (.iload_n 1, 1) := by decide +kernel
theorem dX9_evening_56 : decode cX9_evening 56 = .ok (.iconst 2, 1) := by decide +kernel
theorem dX9_evening_57 : decode cX9_evening 57 = .ok (.if_icmp .ge 7, 3) := by decide +kernel
theorem dX9_evening_60 : decode cX9_evening 60 = .ok (.iconst (-1), 1) := by decide +kernel
theorem dX9_evening_61 : decode cX9_evening 61 = .ok (.goto 9, 3) := by decide +kernel
theorem dX9_evening_64 : decode cX9_evening 64 = .ok (.aload_n 0, 1) := by decide +kernel
theorem dX9_evening_65 : decode cX9_evening 65 = .ok (.iload_n 2, 1) := by decide +kernel
theorem dX9_evening_66 : decode cX9_evening 66 = .ok (.iload_n 1, 1) := by decide +kernel
theorem dX9_evening_67 : decode cX9_evening 67 = .ok (.invokevirtual 261, 3) := by decide +kernel
theorem dX9_evening_70 : decode cX9_evening 70 = .ok (.istore 4, 2) := by decide +kernel
theorem dX9_evening_72 : decode cX9_evening 72 = .ok (.iload 4, 2) := by decide +kernel
theorem dX9_evening_74 : decode cX9_evening 74 = .ok (.iconst (-1), 1) := by decide +kernel
theorem dX9_evening_75 : decode cX9_evening 75 = .ok (.if_icmp .eq 131, 3) := by decide +kernel
theorem dX9_evening_78 : decode cX9_evening 78 = .ok (.aload_n 0, 1) := by decide +kernel
theorem dX9_evening_79 : decode cX9_evening 79 = .ok (.getfield 123, 3) := by decide +kernel
theorem dX9_evening_82 : decode cX9_evening 82 = .ok (.bipush 16, 2) := by decide +kernel
theorem dX9_evening_84 : decode cX9_evening 84 = .ok (.if_icmp .ge 122, 3) := by decide +kernel
theorem dX9_evening_87 : decode cX9_evening 87 = .ok (.aload_n 0, 1) := by decide +kernel
theorem dX9_evening_88 : decode cX9_evening 88 = .ok (.iload 4, 2) := by decide +kernel
theorem dX9_evening_90 : decode cX9_evening 90 = .ok (.aload_n 0, 1) := by decide +kernel
theorem dX9_evening_91 : decode cX9_evening 91 = .ok (.getfield 120, 3) := by decide +kernel
theorem dX9_evening_94 : decode cX9_evening 94 = .ok (.invokevirtual 230, 3) := by decide +kernel
theorem dX9_evening_97 : decode cX9_evening 97 = .ok (.istore 5, 2) := by decide +kernel
theorem dX9_evening_99 : decode cX9_evening 99 = .ok (.iconst 0, 1) := by decide +kernel
theorem dX9_evening_100 : decode cX9_evening 100 = .ok (.istore 6, 2) := by decide +kernel
theorem dX9_evening_102 : decode cX9_evening 102 = .ok (.aload_n 0, 1) := by decide +kernel
theorem dX9_evening_103 : decode cX9_evening 103 = .ok (.iload 4, 2) := by decide +kernel
theorem dX9_evening_105 : decode cX9_evening 105 = .ok (.iload 5, 2) := by decide +kernel
theorem dX9_evening_107 : decode cX9_evening 107 = .ok (.invokevirtual 196, 3) := by decide +kernel
theorem dX9_evening_110 : decode cX9_evening 110 = .ok (.iinc 3 1, 3) := by decide +kernel
theorem dX9_evening_113 : decode cX9_evening 113 = .ok (.iconst 0, 1) := by decide +kernel
theorem dX9_evening_114 : decode cX9_evening 114 = .ok (.istore 7, 2) := by decide +kernel
theorem dX9_evening_116 : decode cX9_evening 116 = .ok (.iload 7, 2) := by decide +kernel
theorem dX9_evening_118 : decode cX9_evening 118 = .ok (.iload_n 1, 1) := by decide +kernel
theorem dX9_evening_119 : decode cX9_evening 119 = .ok (.if_icmp .ge 60, 3) := by decide +kernel
theorem dX9_evening_122 : decode cX9_evening 122 = .ok (.aload_n 0, 1) := by decide +kernel
theorem dX9_evening_123 : decode cX9_evening 123 = .ok (.getfield 84, 3) := by decide +kernel
theorem dX9_evening_126 : decode cX9_evening 126 = .ok (.bipush 92, 2) := by decide +kernel
theorem dX9_evening_128 : decode cX9_evening 128 = .ok (.iload 4, 2) := by decide +kernel
theorem dX9_evening_130 : decode cX9_evening 130 = .ok (.imul, 1) := by decide +kernel
theorem dX9_evening_131 : decode cX9_evening 131 = .ok (.aload_n 0, 1) := by decide +kernel
theorem dX9_evening_132 : decode cX9_evening 132 = .ok (.getfield 87, 3) := by decide +kernel
theorem dX9_evening_135 : decode cX9_evening 135 = .ok (.iload_n 2, 1) := by decide +kernel
theorem dX9_evening_136 : decode cX9_evening 136 = .ok (.iload 7, 2) := by decide +kernel
theorem dX9_evening_138 : decode cX9_evening 138 = .ok (.iadd, 1) := by decide +kernel
theorem dX9_evening_139 : decode cX9_evening 139 = .ok (.iaload, 1) := by decide +kernel
theorem dX9_evening_140 : decode cX9_evening 140 = .ok (.iadd, 1) := by decide +kernel
theorem dX9_evening_141 : decode cX9_evening 141 = .ok (.iaload, 1) := by decide +kernel
theorem dX9_evening_142 : decode cX9_evening 142 = .ok (.iload 5, 2) := by decide +kernel
theorem dX9_evening_144 : decode cX9_evening 144 = .ok (.if_icmp .eq 6, 3) := by decide +kernel
theorem dX9_evening_147 : decode cX9_evening 147 = .ok (.goto 26, 3) := by decide +kernel
theorem dX9_evening_150 : decode cX9_evening 150 = .ok (.aload_n 0, 1) := by decide +kernel
theorem dX9_evening_151 : decode cX9_evening 151 = .ok (.getfield 87, 3) := by decide +kernel
theorem dX9_evening_154 : decode cX9_evening 154 = .ok (.iload_n 2, 1) := by decide +kernel
theorem dX9_evening_155 : decode cX9_evening 155 = .ok (.iload_n 1, 1) := by decide +kernel
theorem dX9_evening_156 : decode cX9_evening 156 = .ok (.iadd, 1) := by decide +kernel
theorem dX9_evening_157 : decode cX9_evening 157 = .ok (.iload 6, 2) := by decide +kernel
theorem dX9_evening_159 : decode cX9_evening 159 = .ok (.iadd, 1) := by decide +kernel
theorem dX9_evening_160 : decode cX9_evening 160 = .ok (.aload_n 0, 1) := by decide +kernel
theorem dX9_evening_161 : decode cX9_evening 161 = .ok (.getfield 87, 3) := by decide +kernel
theorem dX9_evening_164 : decode cX9_evening 164 = .ok (.iload_n 2, 1) := by decide +kernel
theorem dX9_evening_165 : decode cX9_evening 165 = .ok (.iload 7, 2) := by decide +kernel
theorem dX9_evening_167 : decode cX9_evening 167 = .ok (.iadd, 1) := by decide +kernel
theorem dX9_evening_168 : decode cX9_evening 168 = .ok (.iaload, 1) := by decide +kernel
theorem dX9_evening_169 : decode cX9_evening 169 = .ok (.iastore, 1) := by decide +kernel
theorem dX9_evening_170 : decode cX9_evening 170 = .ok (.iinc 6 1, 3) := by decide +kernel
theorem dX9_evening_173 : decode cX9_evening 173 = .ok (.iinc 7 1, 3) := by decide +kernel
theorem dX9_evening_176 : decode cX9_evening 176 = .ok (.goto (-60), 3) := by decide +kernel
theorem dX9_evening_179 : decode cX9_evening 179 = .ok (.iload_n 2, 1) := by decide +kernel
theorem dX9_evening_180 : decode cX9_evening 180 = .ok (.iload_n 1, 1) := by decide +kernel
theorem dX9_evening_181 : decode cX9_evening 181 = .ok (.iadd, 1) := by decide +kernel
theorem dX9_evening_182 : decode cX9_evening 182 = .ok (.istore_n 2, 1) := by decide +kernel
theorem dX9_evening_183 : decode cX9_evening 183 = .ok (.iload 6, 2) := by decide +kernel
theorem dX9_evening_185 : decode cX9_evening 185 = .ok (.istore_n 1, 1) := by decide +kernel
theorem dX9_evening_186 : decode cX9_evening 186 = .ok (.iload_n 1, 1) := by decide +kernel
theorem dX9_evening_187 : decode cX9_evening 187 = .ok (.iconst 2, 1) := by decide +kernel
theorem dX9_evening_188 : decode cX9_evening 188 = .ok (.if_icmp .ge 7, 3) := by decide +kernel
theorem dX9_evening_191 : decode cX9_evening 191 = .ok (.iconst (-1), 1) := by decide +kernel
theorem dX9_evening_192 : decode cX9_evening 192 = .ok (.goto 9, 3) := by decide +kernel
theorem dX9_evening_195 : decode cX9_evening 195 = .ok (.aload_n 0, 1) := by decide +kernel
theorem dX9_evening_196 : decode cX9_evening 196 = .ok (.iload_n 2, 1) := by decide +kernel
theorem dX9_evening_197 : decode cX9_evening 197 = .ok (.iload_n 1, 1) := by decide +kernel
theorem dX9_evening_198 : decode cX9_evening 198 = .ok (.invokevirtual 261, 3) := by decide +kernel
theorem dX9_evening_201 : decode cX9_evening 201 = .ok (.istore 4, 2) := by decide +kernel
theorem dX9_evening_203 : decode cX9_evening 203 = .ok (.goto (-131), 3) := by decide +kernel
theorem dX9_evening_206 : decode cX9_evening 206 = .ok (.iload_n 3, 1) := by decide +kernel
theorem dX9_evening_207 : decode cX9_evening 207 = .ok (.ireturn, 1) := by decide +kernel
theorem dX9_evenings_0 : decode cX9_evenings 0 = .ok (.aload_n 0, 1) := by decide +kernel
theorem dX9_evenings_1 : decode cX9_evenings 1 = .ok (.getfield 96, 3) := by decide +kernel
theorem dX9_evenings_4 : decode cX9_evenings 4 = .ok (.ifCond .ne 10, 3) := by decide +kernel
theorem dX9_evenings_7 : decode cX9_evenings 7 = .ok (.aload_n 0, 1) := by decide +kernel
theorem dX9_evenings_8 : decode cX9_evenings 8 = .ok (.bipush (-5), 2) := by decide +kernel
theorem dX9_evenings_10 : decode cX9_evenings 10 = .ok (.invokevirtual 107, 3) := by decide +kernel
theorem dX9_evenings_13 : decode cX9_evenings 13 = .ok (.ireturn, 1) := by decide +kernel
theorem dX9_evenings_14 : decode cX9_evenings 14 = .ok (.iload_n 1, 1) := by decide +kernel
theorem dX9_evenings_15 : decode cX9_evenings 15 = .ok (.iconst 1, 1) := by decide +kernel
theorem dX9_evenings_16 : decode cX9_evenings 16 = .ok (.if_icmp .lt 9, 3) := by decide +kernel
theorem dX9_evenings_19 : decode cX9_evenings 19 = .ok (.iload_n 1, 1) := by decide +kernel
theorem dX9_evenings_20 : decode cX9_evenings 20 = .ok (.bipush 20, 2) := by decide +kernel
theorem dX9_evenings_22 : decode cX9_evenings 22 = .ok (.if_icmp .le 10, 3) := by decide +kernel
theorem dX9_evenings_25 : decode cX9_evenings 25 = .ok (.aload_n 0, 1) := by decide +kernel
theorem dX9_evenings_26 : decode cX9_evenings 26 = .ok (.bipush (-6), 2) := by decide +kernel
theorem dX9_evenings_28 : decode cX9_evenings 28 = .ok (.invokevirtual 107, 3) := by decide +kernel
theorem dX9_evenings_31 : decode cX9_evenings 31 = .ok (.ireturn, 1) := by decide +kernel
theorem dX9_evenings_32 : decode cX9_evenings 32 = .ok (.iconst 0, 1) := by decide +kernel
theorem dX9_evenings_33 : decode cX9_evenings 33 = .ok (.istore_n 2, 1) := by decide +kernel
theorem dX9_evenings_34 : decode cX9_evenings 34 = .ok (.aload_n 0, 1) := by decide +kernel
theorem dX9_evenings_35 : decode cX9_evenings 35 = .ok (.iconst 0, 1) := by decide +kernel
theorem dX9_evenings_36 : decode cX9_evenings 36 = .ok (.putfield 123, 3) := by decide +kernel
theorem dX9_evenings_39 : decode cX9_evenings 39 = .ok (.aload_n 0, 1) := by decide +kernel
theorem dX9_evenings_40 : decode cX9_evenings 40 = .ok (.invokevirtual 258, 3) := by decide +kernel
theorem dX9_evenings_43 : decode cX9_evenings 43 = .ok (.pop, 1) := by decide +kernel
theorem dX9_evenings_44 : decode cX9_evenings 44 = .ok (.iconst 0, 1) := by decide +kernel
theorem dX9_evenings_45 : decode cX9_evenings 45 = .ok (.istore_n 3, 1) := by decide +kernel
theorem dX9_evenings_46 : decode cX9_evenings 46 = .ok (.iload_n 3, 1) := by decide +kernel
theorem dX9_evenings_47 : decode cX9_evenings 47 = .ok (.iload_n 1, 1) := by decide +kernel
theorem dX9_evenings_48 : decode cX9_evenings 48 = .ok (.if_icmp .ge 16, 3) := by decide +kernel
theorem dX9_evenings_51 : decode cX9_evenings 51 = .ok (.iload_n 2, 1) := by decide +kernel
theorem dX9_evenings_52 : decode cX9_evenings 52 = .ok (.aload_n 0, 1) := by decide +kernel
theorem dX9_evenings_53 : decode cX9_evenings 53 = .ok (.invokevirtual 307, 3) := by decide +kernel
theorem dX9_evenings_56 : decode cX9_evenings 56 = .ok (.iadd, 1) := by decide +kernel
theorem dX9_evenings_57 : decode cX9_evenings 57 = .ok (.istore_n 2, 1) := by decide +kernel
theorem dX9_evenings_58 : decode cX9_evenings 58 = .ok (.iinc 3 1, 3) := by decide +kernel
theorem dX9_evenings_61 : decode cX9_evenings 61 = .ok (.goto (-15), 3) := by decide +kernel
theorem dX9_evenings_64 : decode cX9_evenings 64 = .ok (.iload_n 2, 1) := by decide +kernel
theorem dX9_evenings_65 : decode cX9_evenings 65 = .ok (.ireturn, 1) := by decide +kernel
theorem dX9_seed_0 : decode cX9_seed 0 = .ok (.aload_n 0, 1) := by decide +kernel
theorem dX9_seed_1 : decode cX9_seed 1 = .ok (.getfield 16, 3) := by decide +kernel
theorem dX9_seed_4 : decode cX9_seed 4 = .ok (.istore_n 2, 1) := by decide +kernel
theorem dX9_seed_5 : decode cX9_seed 5 = .ok (.aload_n 0, 1) := by decide +kernel
theorem dX9_seed_6 : decode cX9_seed 6 = .ok (.iload_n 1, 1) := by decide +kernel
theorem dX9_seed_7 : decode cX9_seed 7 = .ok (.putfield 16, 3) := by decide +kernel
theorem dX9_seed_10 : decode cX9_seed 10 = .ok (.iload_n 2, 1) := by decide +kernel
theorem dX9_seed_11 : decode cX9_seed 11 = .ok (.ireturn, 1) := by decide +kernel
theorem dX9_body_0 : decode cX9_body 0 = .ok (.aload_n 0, 1) := by decide +kernel
theorem dX9_body_1 : decode cX9_body 1 = .ok (.getfield 310, 3) := by decide +kernel
theorem dX9_body_4 : decode cX9_body 4 = .ok (.bipush 20, 2) := by decide +kernel
theorem dX9_body_6 : decode cX9_body 6 = .ok (.if_icmp .ge 13, 3) := by decide +kernel
theorem dX9_body_9 : decode cX9_body 9 = .ok (.aload_n 0, 1) := by decide +kernel
theorem dX9_body_10 : decode cX9_body 10 = .ok (.getfield 93, 3) := by decide +kernel
theorem dX9_body_13 : decode cX9_body 13 = .ok (.aload_n 0, 1) := by decide +kernel
theorem dX9_body_14 : decode cX9_body 14 = .ok (.getfield 310, 3) := by decide +kernel
theorem dX9_body_17 : decode cX9_body 17 = .ok (.iload_n 1, 1) := by decide +kernel
theorem dX9_body_18 : decode cX9_body 18 = .ok (.iastore, 1) := by decide +kernel
theorem dX9_body_19 : decode cX9_body 19 = .ok (.aload_n 0, 1) := by decide +kernel
theorem dX9_body_20 : decode cX9_body 20 = .ok (.dup, 1) := by decide +kernel
theorem dX9_body_21 : decode cX9_body 21 = .ok (.getfield 310, 3) := by decide +kernel
theorem dX9_body_24 : decode cX9_body 24 = .ok (.iconst 1, 1) := by decide +kernel
theorem dX9_body_25 : decode cX9_body 25 = .ok (.iadd, 1) := by decide +kernel
theorem dX9_body_26 : decode cX9_body 26 = .ok (.putfield 310, 3) := by decide +kernel
theorem dX9_body_29 : decode cX9_body 29 = .ok (.return_, 1) := by decide +kernel
theorem dX9_singing_0 : decode cX9_singing 0 = .ok (.aload_n 0, 1) := by decide +kernel
theorem dX9_singing_1 : decode cX9_singing 1 = .ok (.getfield 26, 3) := by decide +kernel
theorem dX9_singing_4 : decode cX9_singing 4 = .ok (.iload_n 1, 1) := by decide +kernel
theorem dX9_singing_5 : decode cX9_singing 5 = .ok (.iaload, 1) := by decide +kernel
theorem dX9_singing_6 : decode cX9_singing 6 = .ok (.istore_n 3, 1) := by decide +kernel
theorem dX9_singing_7 : decode cX9_singing 7 = .ok (.iload_n 3, 1) := by decide +kernel
theorem dX9_singing_8 : decode cX9_singing 8 = .ok (.bipush 6, 2) := by decide +kernel
theorem dX9_singing_10 : decode cX9_singing 10 = .ok (.if_icmp .ne 9, 3) := by decide +kernel
theorem dX9_singing_13 : decode cX9_singing 13 = .ok (.aload_n 0, 1) := by decide +kernel
theorem dX9_singing_14 : decode cX9_singing 14 = .ok (.bipush 70, 2) := by decide +kernel
theorem dX9_singing_16 : decode cX9_singing 16 = .ok (.invokevirtual 313, 3) := by decide +kernel
theorem dX9_singing_19 : decode cX9_singing 19 = .ok (.iload_n 3, 1) := by decide +kernel
theorem dX9_singing_20 : decode cX9_singing 20 = .ok (.iconst 4, 1) := by decide +kernel
theorem dX9_singing_21 : decode cX9_singing 21 = .ok (.if_icmp .eq 9, 3) := by decide +kernel
theorem dX9_singing_24 : decode cX9_singing 24 = .ok (.iload_n 3, 1) := by decide +kernel
theorem dX9_singing_25 : decode cX9_singing 25 = .ok (.bipush 6, 2) := by decide +kernel
theorem dX9_singing_27 : decode cX9_singing 27 = .ok (.if_icmp .ne 9, 3) := by decide +kernel
theorem dX9_singing_30 : decode cX9_singing 30 = .ok (.aload_n 0, 1) := by decide +kernel
theorem dX9_singing_31 : decode cX9_singing 31 = .ok (.bipush 51, 2) := by decide +kernel
theorem dX9_singing_33 : decode cX9_singing 33 = .ok (.invokevirtual 313, 3) := by decide +kernel
theorem dX9_singing_36 : decode cX9_singing 36 = .ok (.iload_n 3, 1) := by decide +kernel
theorem dX9_singing_37 : decode cX9_singing 37 = .ok (.iconst 1, 1) := by decide +kernel
theorem dX9_singing_38 : decode cX9_singing 38 = .ok (.if_icmp .eq 8, 3) := by decide +kernel
theorem dX9_singing_41 : decode cX9_singing 41 = .ok (.iload_n 3, 1) := by decide +kernel
theorem dX9_singing_42 : decode cX9_singing 42 = .ok (.iconst 3, 1) := by decide +kernel
theorem dX9_singing_43 : decode cX9_singing 43 = .ok (.if_icmp .ne 9, 3) := by decide +kernel
theorem dX9_singing_46 : decode cX9_singing 46 = .ok (.aload_n 0, 1) := by decide +kernel
theorem dX9_singing_47 : decode cX9_singing 47 = .ok (.bipush 20, 2) := by decide +kernel
theorem dX9_singing_49 : decode cX9_singing 49 = .ok (.invokevirtual 313, 3) := by decide +kernel
theorem dX9_singing_52 : decode cX9_singing 52 = .ok (.aload_n 0, 1) := by decide +kernel
theorem dX9_singing_53 : decode cX9_singing 53 = .ok (.bipush 10, 2) := by decide +kernel
theorem dX9_singing_55 : decode cX9_singing 55 = .ok (.invokevirtual 313, 3) := by decide +kernel
theorem dX9_singing_58 : decode cX9_singing 58 = .ok (.iload_n 2, 1) := by decide +kernel
theorem dX9_singing_59 : decode cX9_singing 59 = .ok (.iload_n 1, 1) := by decide +kernel
theorem dX9_singing_60 : decode cX9_singing 60 = .ok (.iadd, 1) := by decide +kernel
theorem dX9_singing_61 : decode cX9_singing 61 = .ok (.istore 4, 2) := by decide +kernel
theorem dX9_singing_63 : decode cX9_singing 63 = .ok (.iload_n 3, 1) := by decide +kernel
theorem dX9_singing_64 : decode cX9_singing 64 = .ok (.iconst 1, 1) := by decide +kernel
theorem dX9_singing_65 : decode cX9_singing 65 = .ok (.if_icmp .eq 8, 3) := by decide +kernel
theorem dX9_singing_68 : decode cX9_singing 68 = .ok (.iload_n 3, 1) := by decide +kernel
theorem dX9_singing_69 : decode cX9_singing 69 = .ok (.iconst 3, 1) := by decide +kernel
theorem dX9_singing_70 : decode cX9_singing 70 = .ok (.if_icmp .ne 14, 3) := by decide +kernel
theorem dX9_singing_73 : decode cX9_singing 73 = .ok (.iload 4, 2) := by decide +kernel
theorem dX9_singing_75 : decode cX9_singing 75 = .ok (.aload_n 0, 1) := by decide +kernel
theorem dX9_singing_76 : decode cX9_singing 76 = .ok (.getfield 29, 3) := by decide +kernel
theorem dX9_singing_79 : decode cX9_singing 79 = .ok (.iload_n 1, 1) := by decide +kernel
theorem dX9_singing_80 : decode cX9_singing 80 = .ok (.iaload, 1) := by decide +kernel
theorem dX9_singing_81 : decode cX9_singing 81 = .ok (.iadd, 1) := by decide +kernel
theorem dX9_singing_82 : decode cX9_singing 82 = .ok (.istore 4, 2) := by decide +kernel
theorem dX9_singing_84 : decode cX9_singing 84 = .ok (.iload_n 3, 1) := by decide +kernel
theorem dX9_singing_85 : decode cX9_singing 85 = .ok (.iconst 4, 1) := by decide +kernel
theorem dX9_singing_86 : decode cX9_singing 86 = .ok (.if_icmp .eq 9, 3) := by decide +kernel
theorem dX9_singing_89 : decode cX9_singing 89 = .ok (.iload_n 3, 1) := by decide +kernel
theorem dX9_singing_90 : decode cX9_singing 90 = .ok (.bipush 6, 2) := by decide +kernel
theorem dX9_singing_92 : decode cX9_singing 92 = .ok (.if_icmp .ne 9, 3) := by decide +kernel
theorem dX9_singing_95 : decode cX9_singing 95 = .ok (.iload 4, 2) := by decide +kernel
theorem dX9_singing_97 : decode cX9_singing 97 = .ok (.iload_n 1, 1) := by decide +kernel
theorem dX9_singing_98 : decode cX9_singing 98 = .ok (.isub, 1) := by decide +kernel
theorem dX9_singing_99 : decode cX9_singing 99 = .ok (.istore 4, 2) := by decide +kernel
theorem dX9_singing_101 : decode cX9_singing 101 = .ok (.iload_n 3, 1) := by decide +kernel
theorem dX9_singing_102 : decode cX9_singing 102 = .ok (.bipush 6, 2) := by decide +kernel
theorem dX9_singing_104 : decode cX9_singing 104 = .ok (.if_icmp .ne 10, 3) := by decide +kernel
theorem dX9_singing_107 : decode cX9_singing 107 = .ok (.iload 4, 2) := by decide +kernel
theorem dX9_singing_109 : decode cX9_singing 109 = .ok (.iconst 2, 1) := by decide +kernel
theorem dX9_singing_110 : decode cX9_singing 110 = .ok (.imul, 1) := by decide +kernel
theorem dX9_singing_111 : decode cX9_singing 111 = .ok (.goto 5, 3) := by decide +kernel
theorem dX9_singing_114 : decode cX9_singing 114 = .ok (.iload 4, 2) := by decide +kernel
theorem dX9_singing_116 : decode cX9_singing 116 = .ok (.ireturn, 1) := by decide +kernel
theorem dX9_hearing_0 : decode cX9_hearing 0 = .ok (.aload_n 0, 1) := by decide +kernel
theorem dX9_hearing_1 : decode cX9_hearing 1 = .ok (.getfield 26, 3) := by decide +kernel
theorem dX9_hearing_4 : decode cX9_hearing 4 = .ok (.iload_n 1, 1) := by decide +kernel
theorem dX9_hearing_5 : decode cX9_hearing 5 = .ok (.iaload, 1) := by decide +kernel
theorem dX9_hearing_6 : decode cX9_hearing 6 = .ok (.istore_n 3, 1) := by decide +kernel
theorem dX9_hearing_7 : decode cX9_hearing 7 = .ok (.iload_n 2, 1) := by decide +kernel
theorem dX9_hearing_8 : decode cX9_hearing 8 = .ok (.istore 4, 2) := by decide +kernel
theorem dX9_hearing_10 : decode cX9_hearing 10 = .ok (.iload_n 3, 1) := by decide +kernel
theorem dX9_hearing_11 : decode cX9_hearing 11 = .ok (.bipush 6, 2) := by decide +kernel
theorem dX9_hearing_13 : decode cX9_hearing 13 = .ok (.if_icmp .ne 19, 3) := by decide +kernel
theorem dX9_hearing_16 : decode cX9_hearing 16 = .ok (.aload_n 0, 1) := by decide +kernel
theorem dX9_hearing_17 : decode cX9_hearing 17 = .ok (.bipush 71, 2) := by decide +kernel
theorem dX9_hearing_19 : decode cX9_hearing 19 = .ok (.invokevirtual 313, 3) := by decide +kernel
theorem dX9_hearing_22 : decode cX9_hearing 22 = .ok (.iload_n 2, 1) := by decide +kernel
theorem dX9_hearing_23 : decode cX9_hearing 23 = .ok (.aload_n 0, 1) := by decide +kernel
theorem dX9_hearing_24 : decode cX9_hearing 24 = .ok (.getfield 29, 3) := by decide +kernel
theorem dX9_hearing_27 : decode cX9_hearing 27 = .ok (.iload_n 1, 1) := by decide +kernel
theorem dX9_hearing_28 : decode cX9_hearing 28 = .ok (.iaload, 1) := by decide +kernel
theorem dX9_hearing_29 : decode cX9_hearing 29 = .ok (.isub, 1) := by decide +kernel
theorem dX9_hearing_30 : decode cX9_hearing 30 = .ok (.istore 4, 2) := by decide +kernel
theorem dX9_hearing_32 : decode cX9_hearing 32 = .ok (.iload_n 3, 1) := by decide +kernel
theorem dX9_hearing_33 : decode cX9_hearing 33 = .ok (.iconst 3, 1) := by decide +kernel
theorem dX9_hearing_34 : decode cX9_hearing 34 = .ok (.if_icmp .ne 14, 3) := by decide +kernel
theorem dX9_hearing_37 : decode cX9_hearing 37 = .ok (.aload_n 0, 1) := by decide +kernel
theorem dX9_hearing_38 : decode cX9_hearing 38 = .ok (.bipush 40, 2) := by decide +kernel
theorem dX9_hearing_40 : decode cX9_hearing 40 = .ok (.invokevirtual 313, 3) := by decide +kernel
theorem dX9_hearing_43 : decode cX9_hearing 43 = .ok (.iload_n 2, 1) := by decide +kernel
theorem dX9_hearing_44 : decode cX9_hearing 44 = .ok (.iconst 1, 1) := by decide +kernel
theorem dX9_hearing_45 : decode cX9_hearing 45 = .ok (.iadd, 1) := by decide +kernel
theorem dX9_hearing_46 : decode cX9_hearing 46 = .ok (.istore 4, 2) := by decide +kernel
theorem dX9_hearing_48 : decode cX9_hearing 48 = .ok (.iload_n 3, 1) := by decide +kernel
theorem dX9_hearing_49 : decode cX9_hearing 49 = .ok (.iconst 2, 1) := by decide +kernel
theorem dX9_hearing_50 : decode cX9_hearing 50 = .ok (.if_icmp .eq 8, 3) := by decide +kernel
theorem dX9_hearing_53 : decode cX9_hearing 53 = .ok (.iload_n 3, 1) := by decide +kernel
theorem dX9_hearing_54 : decode cX9_hearing 54 = .ok (.iconst 5, 1) := by decide +kernel
theorem dX9_hearing_55 : decode cX9_hearing 55 = .ok (.if_icmp .ne 7, 3) := by decide +kernel
theorem dX9_hearing_58 : decode cX9_hearing 58 = .ok (.iconst 1, 1) := by decide +kernel
theorem dX9_hearing_59 : decode cX9_hearing 59 = .ok (.goto 4, 3) := by decide +kernel
theorem dX9_hearing_62 : decode cX9_hearing 62 = .ok (.iconst 0, 1) := by decide +kernel
theorem dX9_hearing_63 : decode cX9_hearing 63 = .ok (.istore 5, 2) := by decide +kernel
theorem dX9_hearing_65 : decode cX9_hearing 65 = .ok (.iload 5, 2) := by decide +kernel
theorem dX9_hearing_67 : decode cX9_hearing 67 = .ok (.ifCond .eq 9, 3) := by decide +kernel
theorem dX9_hearing_70 : decode cX9_hearing 70 = .ok (.aload_n 0, 1) := by decide +kernel
theorem dX9_hearing_71 : decode cX9_hearing 71 = .ok (.bipush 30, 2) := by decide +kernel
theorem dX9_hearing_73 : decode cX9_hearing 73 = .ok (.invokevirtual 313, 3) := by decide +kernel
theorem dX9_hearing_76 : decode cX9_hearing 76 = .ok (.aload_n 0, 1) := by decide +kernel
theorem dX9_hearing_77 : decode cX9_hearing 77 = .ok (.bipush 11, 2) := by decide +kernel
theorem dX9_hearing_79 : decode cX9_hearing 79 = .ok (.invokevirtual 313, 3) := by decide +kernel
theorem dX9_hearing_82 : decode cX9_hearing 82 = .ok (.aload_n 0, 1) := by decide +kernel
theorem dX9_hearing_83 : decode cX9_hearing 83 = .ok (.iload_n 1, 1) := by decide +kernel
theorem dX9_hearing_84 : decode cX9_hearing 84 = .ok (.iload 4, 2) := by decide +kernel
theorem dX9_hearing_86 : decode cX9_hearing 86 = .ok (.invokevirtual 316, 3) := by decide +kernel
theorem dX9_hearing_89 : decode cX9_hearing 89 = .ok (.iconst 2, 1) := by decide +kernel
theorem dX9_hearing_90 : decode cX9_hearing 90 = .ok (.imul, 1) := by decide +kernel
theorem dX9_hearing_91 : decode cX9_hearing 91 = .ok (.istore 6, 2) := by decide +kernel
theorem dX9_hearing_93 : decode cX9_hearing 93 = .ok (.iload 5, 2) := by decide +kernel
theorem dX9_hearing_95 : decode cX9_hearing 95 = .ok (.ifCond .eq 10, 3) := by decide +kernel
theorem dX9_hearing_98 : decode cX9_hearing 98 = .ok (.iload 6, 2) := by decide +kernel
theorem dX9_hearing_100 : decode cX9_hearing 100 = .ok (.iconst 3, 1) := by decide +kernel
theorem dX9_hearing_101 : decode cX9_hearing 101 = .ok (.imul, 1) := by decide +kernel
theorem dX9_hearing_102 : decode cX9_hearing 102 = .ok (.goto 5, 3) := by decide +kernel
theorem dX9_hearing_105 : decode cX9_hearing 105 = .ok (.iload 6, 2) := by decide +kernel
theorem dX9_hearing_107 : decode cX9_hearing 107 = .ok (.ireturn, 1) := by decide +kernel
theorem dX9_leaning_0 : decode cX9_leaning 0 = .ok (.aload_n 0, 1) := by decide +kernel
theorem dX9_leaning_1 : decode cX9_leaning 1 = .ok (.getfield 26, 3) := by decide +kernel
theorem dX9_leaning_4 : decode cX9_leaning 4 = .ok (.iload_n 1, 1) := by decide +kernel
theorem dX9_leaning_5 : decode cX9_leaning 5 = .ok (.iaload, 1) := by decide +kernel
theorem dX9_leaning_6 : decode cX9_leaning 6 = .ok (.istore_n 3, 1) := by decide +kernel
theorem dX9_leaning_7 : decode cX9_leaning 7 = .ok (.iload_n 3, 1) := by decide +kernel
theorem dX9_leaning_8 : decode cX9_leaning 8 = .ok (.iconst 4, 1) := by decide +kernel
theorem dX9_leaning_9 : decode cX9_leaning 9 = .ok (.if_icmp .eq 9, 3) := by decide +kernel
theorem dX9_leaning_12 : decode cX9_leaning 12 = .ok (.iload_n 3, 1) := by decide +kernel
theorem dX9_leaning_13 : decode cX9_leaning 13 = .ok (.bipush 6, 2) := by decide +kernel
theorem dX9_leaning_15 : decode cX9_leaning 15 = .ok (.if_icmp .ne 9, 3) := by decide +kernel
theorem dX9_leaning_18 : decode cX9_leaning 18 = .ok (.aload_n 0, 1) := by decide +kernel
theorem dX9_leaning_19 : decode cX9_leaning 19 = .ok (.bipush 50, 2) := by decide +kernel
theorem dX9_leaning_21 : decode cX9_leaning 21 = .ok (.invokevirtual 313, 3) := by decide +kernel
theorem dX9_leaning_24 : decode cX9_leaning 24 = .ok (.iload_n 3, 1) := by decide +kernel
theorem dX9_leaning_25 : decode cX9_leaning 25 = .ok (.iconst 5, 1) := by decide +kernel
theorem dX9_leaning_26 : decode cX9_leaning 26 = .ok (.if_icmp .ne 9, 3) := by decide +kernel
theorem dX9_leaning_29 : decode cX9_leaning 29 = .ok (.aload_n 0, 1) := by decide +kernel
theorem dX9_leaning_30 : decode cX9_leaning 30 = .ok (.bipush 60, 2) := by decide +kernel
theorem dX9_leaning_32 : decode cX9_leaning 32 = .ok (.invokevirtual 313, 3) := by decide +kernel
theorem dX9_leaning_35 : decode cX9_leaning 35 = .ok (.aload_n 0, 1) := by decide +kernel
theorem dX9_leaning_36 : decode cX9_leaning 36 = .ok (.bipush 12, 2) := by decide +kernel
theorem dX9_leaning_38 : decode cX9_leaning 38 = .ok (.invokevirtual 313, 3) := by decide +kernel
theorem dX9_leaning_41 : decode cX9_leaning 41 = .ok (.aload_n 0, 1) := by decide +kernel
theorem dX9_leaning_42 : decode cX9_leaning 42 = .ok (.iload_n 1, 1) := by decide +kernel
theorem dX9_leaning_43 : decode cX9_leaning 43 = .ok (.iload_n 2, 1) := by decide +kernel
theorem dX9_leaning_44 : decode cX9_leaning 44 = .ok (.invokevirtual 319, 3) := by decide +kernel
theorem dX9_leaning_47 : decode cX9_leaning 47 = .ok (.istore 4, 2) := by decide +kernel
theorem dX9_leaning_49 : decode cX9_leaning 49 = .ok (.iload 4, 2) := by decide +kernel
theorem dX9_leaning_51 : decode cX9_leaning 51 = .ok (.aload_n 0, 1) := by decide +kernel
theorem dX9_leaning_52 : decode cX9_leaning 52 = .ok (.iload_n 1, 1) := by decide +kernel
theorem dX9_leaning_53 : decode cX9_leaning 53 = .ok (.iload_n 2, 1) := by decide +kernel
theorem dX9_leaning_54 : decode cX9_leaning 54 = .ok (.aload_n 0, 1) := by decide +kernel
theorem dX9_leaning_55 : decode cX9_leaning 55 = .ok (.getfield 29, 3) := by decide +kernel
theorem dX9_leaning_58 : decode cX9_leaning 58 = .ok (.iload_n 1, 1) := by decide +kernel
theorem dX9_leaning_59 : decode cX9_leaning 59 = .ok (.iaload, 1) := by decide +kernel
theorem dX9_leaning_60 : decode cX9_leaning 60 = .ok (.isub, 1) := by decide +kernel
theorem dX9_leaning_61 : decode cX9_leaning 61 = .ok (.invokevirtual 316, 3) := by decide +kernel
theorem dX9_leaning_64 : decode cX9_leaning 64 = .ok (.ixor, 1) := by decide +kernel
theorem dX9_leaning_65 : decode cX9_leaning 65 = .ok (.istore 4, 2) := by decide +kernel
theorem dX9_leaning_67 : decode cX9_leaning 67 = .ok (.iload_n 3, 1) := by decide +kernel
theorem dX9_leaning_68 : decode cX9_leaning 68 = .ok (.iconst 4, 1) := by decide +kernel
theorem dX9_leaning_69 : decode cX9_leaning 69 = .ok (.if_icmp .eq 9, 3) := by decide +kernel
theorem dX9_leaning_72 : decode cX9_leaning 72 = .ok (.iload_n 3, 1) := by decide +kernel
theorem dX9_leaning_73 : decode cX9_leaning 73 = .ok (.bipush 6, 2) := by decide +kernel
theorem dX9_leaning_75 : decode cX9_leaning 75 = .ok (.if_icmp .ne 9, 3) := by decide +kernel
theorem dX9_leaning_78 : decode cX9_leaning 78 = .ok (.iload 4, 2) := by decide +kernel
theorem dX9_leaning_80 : decode cX9_leaning 80 = .ok (.ineg, 1) := by decide +kernel
theorem dX9_leaning_81 : decode cX9_leaning 81 = .ok (.goto 17, 3) := by decide +kernel
theorem dX9_leaning_84 : decode cX9_leaning 84 = .ok (.iload_n 3, 1) := by decide +kernel
theorem dX9_leaning_85 : decode cX9_leaning 85 = .ok (.iconst 5, 1) := by decide +kernel
theorem dX9_leaning_86 : decode cX9_leaning 86 = .ok (.if_icmp .ne 10, 3) := by decide +kernel
theorem dX9_leaning_89 : decode cX9_leaning 89 = .ok (.iload 4, 2) := by decide +kernel
theorem dX9_leaning_91 : decode cX9_leaning 91 = .ok (.iconst 5, 1) := by decide +kernel
theorem dX9_leaning_92 : decode cX9_leaning 92 = .ok (.ixor, 1) := by decide +kernel
theorem dX9_leaning_93 : decode cX9_leaning 93 = .ok (.goto 5, 3) := by decide +kernel
theorem dX9_leaning_96 : decode cX9_leaning 96 = .ok (.iload 4, 2) := by decide +kernel
theorem dX9_leaning_98 : decode cX9_leaning 98 = .ok (.ireturn, 1) := by decide +kernel
theorem dX9_act_0 : decode cX9_act 0 = .ok (.aload_n 0, 1) := by decide +kernel
theorem dX9_act_1 : decode cX9_act 1 = .ok (.iconst 0, 1) := by decide +kernel
theorem dX9_act_2 : decode cX9_act 2 = .ok (.putfield 310, 3) := by decide +kernel
theorem dX9_act_5 : decode cX9_act 5 = .ok (.aload_n 0, 1) := by decide +kernel
theorem dX9_act_6 : decode cX9_act 6 = .ok (.iload_n 1, 1) := by decide +kernel
theorem dX9_act_7 : decode cX9_act 7 = .ok (.invokevirtual 111, 3) := by decide +kernel
theorem dX9_act_10 : decode cX9_act 10 = .ok (.ifCond .eq 12, 3) := by decide +kernel
theorem dX9_act_13 : decode cX9_act 13 = .ok (.iload_n 2, 1) := by decide +kernel
theorem dX9_act_14 : decode cX9_act 14 = .ok (.ifCond .lt 8, 3) := by decide +kernel
theorem dX9_act_17 : decode cX9_act 17 = .ok (.iload_n 2, 1) := by decide +kernel
theorem dX9_act_18 : decode cX9_act 18 = .ok (.iconst 2, 1) := by decide +kernel
theorem dX9_act_19 : decode cX9_act 19 = .ok (.if_icmp .le 5, 3) := by decide +kernel
theorem dX9_act_22 : decode cX9_act 22 = .ok (.iconst 0, 1) := by decide +kernel
theorem dX9_act_23 : decode cX9_act 23 = .ok (.ireturn, 1) := by decide +kernel
theorem dX9_act_24 : decode cX9_act 24 = .ok (.iload_n 2, 1) := by decide +kernel
theorem dX9_act_25 : decode cX9_act 25 = .ok (.ifCond .ne 12, 3) := by decide +kernel
theorem dX9_act_28 : decode cX9_act 28 = .ok (.aload_n 0, 1) := by decide +kernel
theorem dX9_act_29 : decode cX9_act 29 = .ok (.iload_n 1, 1) := by decide +kernel
theorem dX9_act_30 : decode cX9_act 30 = .ok (.iload_n 3, 1) := by decide +kernel
theorem dX9_act_31 : decode cX9_act 31 = .ok (.invokevirtual 316, 3) := by decide +kernel
theorem dX9_act_34 : decode cX9_act 34 = .ok (.goto 23, 3) := by decide +kernel
theorem dX9_act_37 : decode cX9_act 37 = .ok (.iload_n 2, 1) := by decide +kernel
theorem dX9_act_38 : decode cX9_act 38 = .ok (.iconst 1, 1) := by decide +kernel
theorem dX9_act_39 : decode cX9_act 39 = .ok (.if_icmp .ne 12, 3) := by decide +kernel
theorem dX9_act_42 : decode cX9_act 42 = .ok (.aload_n 0, 1) := by decide +kernel
theorem dX9_act_43 : decode cX9_act 43 = .ok (.iload_n 1, 1) := by decide +kernel
theorem dX9_act_44 : decode cX9_act 44 = .ok (.iload_n 3, 1) := by decide +kernel
theorem dX9_act_45 : decode cX9_act 45 = .ok (.invokevirtual 319, 3) := by decide +kernel
theorem dX9_act_48 : decode cX9_act 48 = .ok (.goto 9, 3) := by decide +kernel
theorem dX9_act_51 : decode cX9_act 51 = .ok (.aload_n 0, 1) := by decide +kernel
theorem dX9_act_52 : decode cX9_act 52 = .ok (.iload_n 1, 1) := by decide +kernel
theorem dX9_act_53 : decode cX9_act 53 = .ok (.iload_n 3, 1) := by decide +kernel
theorem dX9_act_54 : decode cX9_act 54 = .ok (.invokevirtual 322, 3) := by decide +kernel
theorem dX9_act_57 : decode cX9_act 57 = .ok (.ireturn, 1) := by decide +kernel
theorem dX9_trace_0 : decode cX9_trace 0 = .ok (.iload_n 1, 1) := by decide +kernel
theorem dX9_trace_1 : decode cX9_trace 1 = .ok (.ifCond .lt 26, 3) := by decide +kernel
theorem dX9_trace_4 : decode cX9_trace 4 = .ok (.iload_n 1, 1) := by decide +kernel
theorem dX9_trace_5 : decode cX9_trace 5 = .ok (.bipush 20, 2) := by decide +kernel
theorem dX9_trace_7 : decode cX9_trace 7 = .ok (.if_icmp .ge 20, 3) := by decide +kernel
theorem dX9_trace_10 : decode cX9_trace 10 = .ok (.iload_n 1, 1) := by decide +kernel
theorem dX9_trace_11 : decode cX9_trace 11 = .ok (.aload_n 0, 1) := by decide +kernel
theorem dX9_trace_12 : decode cX9_trace 12 = .ok (.getfield 310, 3) := by decide +kernel
theorem dX9_trace_15 : decode cX9_trace 15 = .ok (.if_icmp .ge 12, 3) := by decide +kernel
theorem dX9_trace_18 : decode cX9_trace 18 = .ok (.aload_n 0, 1) := by decide +kernel
theorem dX9_trace_19 : decode cX9_trace 19 = .ok (.getfield 93, 3) := by decide +kernel
theorem dX9_trace_22 : decode cX9_trace 22 = .ok (.iload_n 1, 1) := by decide +kernel
theorem dX9_trace_23 : decode cX9_trace 23 = .ok (.iaload, 1) := by decide +kernel
theorem dX9_trace_24 : decode cX9_trace 24 = .ok (.goto 4, 3) := by decide +kernel
theorem dX9_trace_27 : decode cX9_trace 27 = .ok (.iconst (-1), 1) := by decide +kernel
theorem dX9_trace_28 : decode cX9_trace 28 = .ok (.ireturn, 1) := by decide +kernel
theorem dX9_image_0 : decode cX9_image 0 = .ok (.aload_n 0, 1) := by decide +kernel
theorem dX9_image_1 : decode cX9_image 1 = .ok (.iconst 1, 1) := by decide +kernel
theorem dX9_image_2 : decode cX9_image 2 = .ok (.putfield 325, 3) := by decide +kernel
theorem dX9_image_5 : decode cX9_image 5 = .ok (.aload_n 0, 1) := by decide +kernel
theorem dX9_image_6 : decode cX9_image 6 = .ok (.aload_n 0, 1) := by decide +kernel
theorem dX9_image_7 : decode cX9_image 7 = .ok (.getfield 75, 3) := by decide +kernel
theorem dX9_image_10 : decode cX9_image 10 = .ok (.iconst 0, 1) := by decide +kernel
theorem dX9_image_11 : decode cX9_image 11 = .ok (.invokevirtual 207, 3) := by decide +kernel
theorem dX9_image_14 : decode cX9_image 14 = .ok (.aload_n 0, 1) := by decide +kernel
theorem dX9_image_15 : decode cX9_image 15 = .ok (.getfield 96, 3) := by decide +kernel
theorem dX9_image_18 : decode cX9_image 18 = .ok (.ireturn, 1) := by decide +kernel
theorem dX9_restore_0 : decode cX9_restore 0 = .ok (.aload_n 0, 1) := by decide +kernel
theorem dX9_restore_1 : decode cX9_restore 1 = .ok (.getfield 325, 3) := by decide +kernel
theorem dX9_restore_4 : decode cX9_restore 4 = .ok (.ifCond .ne 10, 3) := by decide +kernel
theorem dX9_restore_7 : decode cX9_restore 7 = .ok (.aload_n 0, 1) := by decide +kernel
theorem dX9_restore_8 : decode cX9_restore 8 = .ok (.bipush (-6), 2) := by decide +kernel
theorem dX9_restore_10 : decode cX9_restore 10 = .ok (.invokevirtual 107, 3) := by decide +kernel
theorem dX9_restore_13 : decode cX9_restore 13 = .ok (.ireturn, 1) := by decide +kernel
theorem dX9_restore_14 : decode cX9_restore 14 = .ok (.aload_n 0, 1) := by decide +kernel
theorem dX9_restore_15 : decode cX9_restore 15 = .ok (.aload_n 0, 1) := by decide +kernel
theorem dX9_restore_16 : decode cX9_restore 16 = .ok (.getfield 75, 3) := by decide +kernel
theorem dX9_restore_19 : decode cX9_restore 19 = .ok (.iconst 1, 1) := by decide +kernel
theorem dX9_restore_20 : decode cX9_restore 20 = .ok (.invokevirtual 207, 3) := by decide +kernel
theorem dX9_restore_23 : decode cX9_restore 23 = .ok (.iconst 0, 1) := by decide +kernel
theorem dX9_restore_24 : decode cX9_restore 24 = .ok (.istore_n 1, 1) := by decide +kernel
theorem dX9_restore_25 : decode cX9_restore 25 = .ok (.iload_n 1, 1) := by decide +kernel
theorem dX9_restore_26 : decode cX9_restore 26 = .ok (.bipush 8, 2) := by decide +kernel
theorem dX9_restore_28 : decode cX9_restore 28 = .ok (.if_icmp .ge 39, 3) := by decide +kernel
theorem dX9_restore_31 : decode cX9_restore 31 = .ok (.aload_n 0, 1) := by decide +kernel
theorem dX9_restore_32 : decode cX9_restore 32 = .ok (.getfield 44, 3) := by decide +kernel
theorem dX9_restore_35 : decode cX9_restore 35 = .ok (.iload_n 1, 1) := by decide +kernel
theorem dX9_restore_36 : decode cX9_restore 36 = .ok (.iaload, 1) := by decide +kernel
theorem dX9_restore_37 : decode cX9_restore 37 = .ok (.iconst 2, 1) := by decide +kernel
theorem dX9_restore_38 : decode cX9_restore 38 = .ok (.if_icmp .ne 23, 3) := by decide +kernel
theorem dX9_restore_41 : decode cX9_restore 41 = .ok (.aload_n 0, 1) := by decide +kernel
theorem dX9_restore_42 : decode cX9_restore 42 = .ok (.getfield 53, 3) := by decide +kernel
theorem dX9_restore_45 : decode cX9_restore 45 = .ok (.iload_n 1, 1) := by decide +kernel
theorem dX9_restore_46 : decode cX9_restore 46 = .ok (.iaload, 1) := by decide +kernel
theorem dX9_restore_47 : decode cX9_restore 47 = .ok (.aload_n 0, 1) := by decide +kernel
theorem dX9_restore_48 : decode cX9_restore 48 = .ok (.getfield 96, 3) := by decide +kernel
theorem dX9_restore_51 : decode cX9_restore 51 = .ok (.if_icmp .lt 10, 3) := by decide +kernel
theorem dX9_restore_54 : decode cX9_restore 54 = .ok (.aload_n 0, 1) := by decide +kernel
theorem dX9_restore_55 : decode cX9_restore 55 = .ok (.getfield 44, 3) := by decide +kernel
theorem dX9_restore_58 : decode cX9_restore 58 = .ok (.iload_n 1, 1) := by decide +kernel
theorem dX9_restore_59 : decode cX9_restore 59 = .ok (.iconst 0, 1) := by decide +kernel
theorem dX9_restore_60 : decode cX9_restore 60 = .ok (.iastore, 1) := by decide +kernel
theorem dX9_restore_61 : decode cX9_restore 61 = .ok (.iinc 1 1, 3) := by decide +kernel
theorem dX9_restore_64 : decode cX9_restore 64 = .ok (.goto (-39), 3) := by decide +kernel
theorem dX9_restore_67 : decode cX9_restore 67 = .ok (.aload_n 0, 1) := by decide +kernel
theorem dX9_restore_68 : decode cX9_restore 68 = .ok (.getfield 96, 3) := by decide +kernel
theorem dX9_restore_71 : decode cX9_restore 71 = .ok (.ireturn, 1) := by decide +kernel
theorem dX9_status_0 : decode cX9_status 0 = .ok (.iload_n 1, 1) := by decide +kernel
theorem dX9_status_1 : decode cX9_status 1 = .ok (.bipush 11, 2) := by decide +kernel
theorem dX9_status_3 : decode cX9_status 3 = .ok (.if_icmp .lt 19, 3) := by decide +kernel
theorem dX9_status_6 : decode cX9_status 6 = .ok (.iload_n 1, 1) := by decide +kernel
theorem dX9_status_7 : decode cX9_status 7 = .ok (.bipush 17, 2) := by decide +kernel
theorem dX9_status_9 : decode cX9_status 9 = .ok (.if_icmp .gt 13, 3) := by decide +kernel
theorem dX9_status_12 : decode cX9_status 12 = .ok (.aload_n 0, 1) := by decide +kernel
theorem dX9_status_13 : decode cX9_status 13 = .ok (.getfield 22, 3) := by decide +kernel
theorem dX9_status_16 : decode cX9_status 16 = .ok (.iload_n 1, 1) := by decide +kernel
theorem dX9_status_17 : decode cX9_status 17 = .ok (.bipush 10, 2) := by decide +kernel
theorem dX9_status_19 : decode cX9_status 19 = .ok (.isub, 1) := by decide +kernel
theorem dX9_status_20 : decode cX9_status 20 = .ok (.iaload, 1) := by decide +kernel
theorem dX9_status_21 : decode cX9_status 21 = .ok (.ireturn, 1) := by decide +kernel
theorem dX9_status_22 : decode cX9_status 22 = .ok (.iload_n 1, 1) := by decide +kernel
theorem dX9_status_23 : decode cX9_status 23 = .ok (.tableswitch 94 0 8 #[49, 54, 59, 64, 69, 74, 79, 84, 89], 49) := by decide +kernel
theorem dX9_status_72 : decode cX9_status 72 = .ok (.aload_n 0, 1) := by decide +kernel
theorem dX9_status_73 : decode cX9_status 73 = .ok (.getfield 96, 3) := by decide +kernel
theorem dX9_status_76 : decode cX9_status 76 = .ok (.ireturn, 1) := by decide +kernel
theorem dX9_status_77 : decode cX9_status 77 = .ok (.aload_n 0, 1) := by decide +kernel
theorem dX9_status_78 : decode cX9_status 78 = .ok (.getfield 7, 3) := by decide +kernel
theorem dX9_status_81 : decode cX9_status 81 = .ok (.ireturn, 1) := by decide +kernel
theorem dX9_status_82 : decode cX9_status 82 = .ok (.aload_n 0, 1) := by decide +kernel
theorem dX9_status_83 : decode cX9_status 83 = .ok (.getfield 13, 3) := by decide +kernel
theorem dX9_status_86 : decode cX9_status 86 = .ok (.ireturn, 1) := by decide +kernel
theorem dX9_status_87 : decode cX9_status 87 = .ok (.aload_n 0, 1) := by decide +kernel
theorem dX9_status_88 : decode cX9_status 88 = .ok (.getfield 136, 3) := by decide +kernel
theorem dX9_status_91 : decode cX9_status 91 = .ok (.ireturn, 1) := by decide +kernel
theorem dX9_status_92 : decode cX9_status 92 = .ok (.aload_n 0, 1) := by decide +kernel
theorem dX9_status_93 : decode cX9_status 93 = .ok (.getfield 139, 3) := by decide +kernel
theorem dX9_status_96 : decode cX9_status 96 = .ok (.ireturn, 1) := by decide +kernel
theorem dX9_status_97 : decode cX9_status 97 = .ok (.aload_n 0, 1) := by decide +kernel
theorem dX9_status_98 : decode cX9_status 98 = .ok (.getfield 123, 3) := by decide +kernel
theorem dX9_status_101 : decode cX9_status 101 = .ok (.ireturn, 1) := by decide +kernel
theorem dX9_status_102 : decode cX9_status 102 = .ok (.aload_n 0, 1) := by decide +kernel
theorem dX9_status_103 : decode cX9_status 103 = .ok (.getfield 120, 3) := by decide +kernel
theorem dX9_status_106 : decode cX9_status 106 = .ok (.ireturn, 1) := by decide +kernel
theorem dX9_status_107 : decode cX9_status 107 = .ok (.aload_n 0, 1) := by decide +kernel
theorem dX9_status_108 : decode cX9_status 108 = .ok (.getfield 16, 3) := by decide +kernel
theorem dX9_status_111 : decode cX9_status 111 = .ok (.ireturn, 1) := by decide +kernel
theorem dX9_status_112 : decode cX9_status 112 = .ok (.aload_n 0, 1) := by decide +kernel
theorem dX9_status_113 : decode cX9_status 113 = .ok (.getfield 310, 3) := by decide +kernel
theorem dX9_status_116 : decode cX9_status 116 = .ok (.ireturn, 1) := by decide +kernel
theorem dX9_status_117 : decode cX9_status 117 = .ok (.iconst (-1), 1) := by decide +kernel
theorem dX9_status_118 : decode cX9_status 118 = .ok (.ireturn, 1) := by decide +kernel
