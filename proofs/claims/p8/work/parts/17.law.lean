theorem d_L_law_0 : decode code 0 = .ok (.new 7, 3) := by decide +kernel
theorem d_L_law_3 : decode code 3 = .ok (.dup, 1) := by decide +kernel
theorem d_L_law_4 : decode code 4 = .ok (.invokespecial 9, 3) := by decide +kernel
theorem d_L_law_7 : decode code 7 = .ok (.astore_n 1, 1) := by decide +kernel
theorem d_L_law_8 : decode code 8 = .ok (.new 10, 3) := by decide +kernel
theorem d_L_law_11 : decode code 11 = .ok (.dup, 1) := by decide +kernel
theorem d_L_law_12 : decode code 12 = .ok (.invokespecial 12, 3) := by decide +kernel
theorem d_L_law_15 : decode code 15 = .ok (.astore_n 2, 1) := by decide +kernel
theorem d_L_law_16 : decode code 16 = .ok (.iconst 0, 1) := by decide +kernel
theorem d_L_law_17 : decode code 17 = .ok (.istore_n 3, 1) := by decide +kernel
theorem d_L_law_18 : decode code 18 = .ok (.iload_n 3, 1) := by decide +kernel
theorem d_L_law_19 : decode code 19 = .ok (.aload_n 0, 1) := by decide +kernel
theorem d_L_law_20 : decode code 20 = .ok (.arraylength, 1) := by decide +kernel
theorem d_L_law_21 : decode code 21 = .ok (.bipush 9, 2) := by decide +kernel
theorem d_L_law_23 : decode code 23 = .ok (.isub, 1) := by decide +kernel
theorem d_L_law_24 : decode code 24 = .ok (.if_icmp .gt 555, 3) := by decide +kernel
theorem d_L_law_27 : decode code 27 = .ok (.aload_n 0, 1) := by decide +kernel
theorem d_L_law_28 : decode code 28 = .ok (.iload_n 3, 1) := by decide +kernel
theorem d_L_law_29 : decode code 29 = .ok (.iaload, 1) := by decide +kernel
theorem d_L_law_30 : decode code 30 = .ok (.bipush 15, 2) := by decide +kernel
theorem d_L_law_32 : decode code 32 = .ok (.iand, 1) := by decide +kernel
theorem d_L_law_33 : decode code 33 = .ok (.tableswitch 540 0 12 #[67, 90, 229, 292, 303, 336, 369, 392, 415, 438, 471, 504, 517], 67) := by decide +kernel
theorem d_L_law_100 : decode code 100 = .ok (.aload_n 1, 1) := by decide +kernel
theorem d_L_law_101 : decode code 101 = .ok (.aload_n 0, 1) := by decide +kernel
theorem d_L_law_102 : decode code 102 = .ok (.iload_n 3, 1) := by decide +kernel
theorem d_L_law_103 : decode code 103 = .ok (.iconst 1, 1) := by decide +kernel
theorem d_L_law_104 : decode code 104 = .ok (.iadd, 1) := by decide +kernel
theorem d_L_law_105 : decode code 105 = .ok (.iaload, 1) := by decide +kernel
theorem d_L_law_106 : decode code 106 = .ok (.invokevirtual 13, 3) := by decide +kernel
theorem d_L_law_109 : decode code 109 = .ok (.pop, 1) := by decide +kernel
theorem d_L_law_110 : decode code 110 = .ok (.aload_n 2, 1) := by decide +kernel
theorem d_L_law_111 : decode code 111 = .ok (.aload_n 0, 1) := by decide +kernel
theorem d_L_law_112 : decode code 112 = .ok (.iload_n 3, 1) := by decide +kernel
theorem d_L_law_113 : decode code 113 = .ok (.iconst 1, 1) := by decide +kernel
theorem d_L_law_114 : decode code 114 = .ok (.iadd, 1) := by decide +kernel
theorem d_L_law_115 : decode code 115 = .ok (.iaload, 1) := by decide +kernel
theorem d_L_law_116 : decode code 116 = .ok (.invokevirtual 17, 3) := by decide +kernel
theorem d_L_law_119 : decode code 119 = .ok (.pop, 1) := by decide +kernel
theorem d_L_law_120 : decode code 120 = .ok (.goto 453, 3) := by decide +kernel
theorem d_L_law_123 : decode code 123 = .ok (.aload_n 1, 1) := by decide +kernel
theorem d_L_law_124 : decode code 124 = .ok (.aload_n 0, 1) := by decide +kernel
theorem d_L_law_125 : decode code 125 = .ok (.iload_n 3, 1) := by decide +kernel
theorem d_L_law_126 : decode code 126 = .ok (.iconst 1, 1) := by decide +kernel
theorem d_L_law_127 : decode code 127 = .ok (.iadd, 1) := by decide +kernel
theorem d_L_law_128 : decode code 128 = .ok (.iaload, 1) := by decide +kernel
theorem d_L_law_129 : decode code 129 = .ok (.aload_n 0, 1) := by decide +kernel
theorem d_L_law_130 : decode code 130 = .ok (.iload_n 3, 1) := by decide +kernel
theorem d_L_law_131 : decode code 131 = .ok (.iconst 2, 1) := by decide +kernel
theorem d_L_law_132 : decode code 132 = .ok (.iadd, 1) := by decide +kernel
theorem d_L_law_133 : decode code 133 = .ok (.iaload, 1) := by decide +kernel
theorem d_L_law_134 : decode code 134 = .ok (.aload_n 0, 1) := by decide +kernel
theorem d_L_law_135 : decode code 135 = .ok (.iload_n 3, 1) := by decide +kernel
theorem d_L_law_136 : decode code 136 = .ok (.iconst 3, 1) := by decide +kernel
theorem d_L_law_137 : decode code 137 = .ok (.iadd, 1) := by decide +kernel
theorem d_L_law_138 : decode code 138 = .ok (.iaload, 1) := by decide +kernel
theorem d_L_law_139 : decode code 139 = .ok (.aload_n 0, 1) := by decide +kernel
theorem d_L_law_140 : decode code 140 = .ok (.iload_n 3, 1) := by decide +kernel
theorem d_L_law_141 : decode code 141 = .ok (.iconst 4, 1) := by decide +kernel
theorem d_L_law_142 : decode code 142 = .ok (.iadd, 1) := by decide +kernel
theorem d_L_law_143 : decode code 143 = .ok (.iaload, 1) := by decide +kernel
theorem d_L_law_144 : decode code 144 = .ok (.i2l, 1) := by decide +kernel
theorem d_L_law_145 : decode code 145 = .ok (.bipush 32, 2) := by decide +kernel
theorem d_L_law_147 : decode code 147 = .ok (.lshl, 1) := by decide +kernel
theorem d_L_law_148 : decode code 148 = .ok (.aload_n 0, 1) := by decide +kernel
theorem d_L_law_149 : decode code 149 = .ok (.iload_n 3, 1) := by decide +kernel
theorem d_L_law_150 : decode code 150 = .ok (.iconst 5, 1) := by decide +kernel
theorem d_L_law_151 : decode code 151 = .ok (.iadd, 1) := by decide +kernel
theorem d_L_law_152 : decode code 152 = .ok (.iaload, 1) := by decide +kernel
theorem d_L_law_153 : decode code 153 = .ok (.i2l, 1) := by decide +kernel
theorem d_L_law_154 : decode code 154 = .ok (.ldc2_w 18, 3) := by decide +kernel
theorem d_L_law_157 : decode code 157 = .ok (.land, 1) := by decide +kernel
theorem d_L_law_158 : decode code 158 = .ok (.lor, 1) := by decide +kernel
theorem d_L_law_159 : decode code 159 = .ok (.aload_n 0, 1) := by decide +kernel
theorem d_L_law_160 : decode code 160 = .ok (.iload_n 3, 1) := by decide +kernel
theorem d_L_law_161 : decode code 161 = .ok (.bipush 6, 2) := by decide +kernel
theorem d_L_law_163 : decode code 163 = .ok (.iadd, 1) := by decide +kernel
theorem d_L_law_164 : decode code 164 = .ok (.iaload, 1) := by decide +kernel
theorem d_L_law_165 : decode code 165 = .ok (.i2l, 1) := by decide +kernel
theorem d_L_law_166 : decode code 166 = .ok (.bipush 32, 2) := by decide +kernel
theorem d_L_law_168 : decode code 168 = .ok (.lshl, 1) := by decide +kernel
theorem d_L_law_169 : decode code 169 = .ok (.aload_n 0, 1) := by decide +kernel
theorem d_L_law_170 : decode code 170 = .ok (.iload_n 3, 1) := by decide +kernel
theorem d_L_law_171 : decode code 171 = .ok (.bipush 7, 2) := by decide +kernel
theorem d_L_law_173 : decode code 173 = .ok (.iadd, 1) := by decide +kernel
theorem d_L_law_174 : decode code 174 = .ok (.iaload, 1) := by decide +kernel
theorem d_L_law_175 : decode code 175 = .ok (.i2l, 1) := by decide +kernel
theorem d_L_law_176 : decode code 176 = .ok (.ldc2_w 18, 3) := by decide +kernel
theorem d_L_law_179 : decode code 179 = .ok (.land, 1) := by decide +kernel
theorem d_L_law_180 : decode code 180 = .ok (.lor, 1) := by decide +kernel
theorem d_L_law_181 : decode code 181 = .ok (.aload_n 0, 1) := by decide +kernel
theorem d_L_law_182 : decode code 182 = .ok (.iload_n 3, 1) := by decide +kernel
theorem d_L_law_183 : decode code 183 = .ok (.bipush 8, 2) := by decide +kernel
theorem d_L_law_185 : decode code 185 = .ok (.iadd, 1) := by decide +kernel
theorem d_L_law_186 : decode code 186 = .ok (.iaload, 1) := by decide +kernel
theorem d_L_law_187 : decode code 187 = .ok (.invokevirtual 20, 3) := by decide +kernel
theorem d_L_law_190 : decode code 190 = .ok (.pop, 1) := by decide +kernel
theorem d_L_law_191 : decode code 191 = .ok (.aload_n 2, 1) := by decide +kernel
theorem d_L_law_192 : decode code 192 = .ok (.aload_n 0, 1) := by decide +kernel
theorem d_L_law_193 : decode code 193 = .ok (.iload_n 3, 1) := by decide +kernel
theorem d_L_law_194 : decode code 194 = .ok (.iconst 1, 1) := by decide +kernel
theorem d_L_law_195 : decode code 195 = .ok (.iadd, 1) := by decide +kernel
theorem d_L_law_196 : decode code 196 = .ok (.iaload, 1) := by decide +kernel
theorem d_L_law_197 : decode code 197 = .ok (.aload_n 0, 1) := by decide +kernel
theorem d_L_law_198 : decode code 198 = .ok (.iload_n 3, 1) := by decide +kernel
theorem d_L_law_199 : decode code 199 = .ok (.iconst 2, 1) := by decide +kernel
theorem d_L_law_200 : decode code 200 = .ok (.iadd, 1) := by decide +kernel
theorem d_L_law_201 : decode code 201 = .ok (.iaload, 1) := by decide +kernel
theorem d_L_law_202 : decode code 202 = .ok (.aload_n 0, 1) := by decide +kernel
theorem d_L_law_203 : decode code 203 = .ok (.iload_n 3, 1) := by decide +kernel
theorem d_L_law_204 : decode code 204 = .ok (.iconst 3, 1) := by decide +kernel
theorem d_L_law_205 : decode code 205 = .ok (.iadd, 1) := by decide +kernel
theorem d_L_law_206 : decode code 206 = .ok (.iaload, 1) := by decide +kernel
theorem d_L_law_207 : decode code 207 = .ok (.aload_n 0, 1) := by decide +kernel
theorem d_L_law_208 : decode code 208 = .ok (.iload_n 3, 1) := by decide +kernel
theorem d_L_law_209 : decode code 209 = .ok (.iconst 4, 1) := by decide +kernel
theorem d_L_law_210 : decode code 210 = .ok (.iadd, 1) := by decide +kernel
theorem d_L_law_211 : decode code 211 = .ok (.iaload, 1) := by decide +kernel
theorem d_L_law_212 : decode code 212 = .ok (.i2l, 1) := by decide +kernel
theorem d_L_law_213 : decode code 213 = .ok (.bipush 32, 2) := by decide +kernel
theorem d_L_law_215 : decode code 215 = .ok (.lshl, 1) := by decide +kernel
theorem d_L_law_216 : decode code 216 = .ok (.aload_n 0, 1) := by decide +kernel
theorem d_L_law_217 : decode code 217 = .ok (.iload_n 3, 1) := by decide +kernel
theorem d_L_law_218 : decode code 218 = .ok (.iconst 5, 1) := by decide +kernel
theorem d_L_law_219 : decode code 219 = .ok (.iadd, 1) := by decide +kernel
theorem d_L_law_220 : decode code 220 = .ok (.iaload, 1) := by decide +kernel
theorem d_L_law_221 : decode code 221 = .ok (.i2l, 1) := by decide +kernel
theorem d_L_law_222 : decode code 222 = .ok (.ldc2_w 18, 3) := by decide +kernel
theorem d_L_law_225 : decode code 225 = .ok (.land, 1) := by decide +kernel
theorem d_L_law_226 : decode code 226 = .ok (.lor, 1) := by decide +kernel
theorem d_L_law_227 : decode code 227 = .ok (.aload_n 0, 1) := by decide +kernel
theorem d_L_law_228 : decode code 228 = .ok (.iload_n 3, 1) := by decide +kernel
theorem d_L_law_229 : decode code 229 = .ok (.bipush 6, 2) := by decide +kernel
theorem d_L_law_231 : decode code 231 = .ok (.iadd, 1) := by decide +kernel
theorem d_L_law_232 : decode code 232 = .ok (.iaload, 1) := by decide +kernel
theorem d_L_law_233 : decode code 233 = .ok (.i2l, 1) := by decide +kernel
theorem d_L_law_234 : decode code 234 = .ok (.bipush 32, 2) := by decide +kernel
theorem d_L_law_236 : decode code 236 = .ok (.lshl, 1) := by decide +kernel
theorem d_L_law_237 : decode code 237 = .ok (.aload_n 0, 1) := by decide +kernel
theorem d_L_law_238 : decode code 238 = .ok (.iload_n 3, 1) := by decide +kernel
theorem d_L_law_239 : decode code 239 = .ok (.bipush 7, 2) := by decide +kernel
theorem d_L_law_241 : decode code 241 = .ok (.iadd, 1) := by decide +kernel
theorem d_L_law_242 : decode code 242 = .ok (.iaload, 1) := by decide +kernel
theorem d_L_law_243 : decode code 243 = .ok (.i2l, 1) := by decide +kernel
theorem d_L_law_244 : decode code 244 = .ok (.ldc2_w 18, 3) := by decide +kernel
theorem d_L_law_247 : decode code 247 = .ok (.land, 1) := by decide +kernel
theorem d_L_law_248 : decode code 248 = .ok (.lor, 1) := by decide +kernel
theorem d_L_law_249 : decode code 249 = .ok (.aload_n 0, 1) := by decide +kernel
theorem d_L_law_250 : decode code 250 = .ok (.iload_n 3, 1) := by decide +kernel
theorem d_L_law_251 : decode code 251 = .ok (.bipush 8, 2) := by decide +kernel
theorem d_L_law_253 : decode code 253 = .ok (.iadd, 1) := by decide +kernel
theorem d_L_law_254 : decode code 254 = .ok (.iaload, 1) := by decide +kernel
theorem d_L_law_255 : decode code 255 = .ok (.invokevirtual 24, 3) := by decide +kernel
theorem d_L_law_258 : decode code 258 = .ok (.pop, 1) := by decide +kernel
theorem d_L_law_259 : decode code 259 = .ok (.goto 314, 3) := by decide +kernel
theorem d_L_law_262 : decode code 262 = .ok (.aload_n 1, 1) := by decide +kernel
theorem d_L_law_263 : decode code 263 = .ok (.aload_n 0, 1) := by decide +kernel
theorem d_L_law_264 : decode code 264 = .ok (.iload_n 3, 1) := by decide +kernel
theorem d_L_law_265 : decode code 265 = .ok (.iconst 1, 1) := by decide +kernel
theorem d_L_law_266 : decode code 266 = .ok (.iadd, 1) := by decide +kernel
theorem d_L_law_267 : decode code 267 = .ok (.iaload, 1) := by decide +kernel
theorem d_L_law_268 : decode code 268 = .ok (.aload_n 0, 1) := by decide +kernel
theorem d_L_law_269 : decode code 269 = .ok (.iload_n 3, 1) := by decide +kernel
theorem d_L_law_270 : decode code 270 = .ok (.iconst 2, 1) := by decide +kernel
theorem d_L_law_271 : decode code 271 = .ok (.iadd, 1) := by decide +kernel
theorem d_L_law_272 : decode code 272 = .ok (.iaload, 1) := by decide +kernel
theorem d_L_law_273 : decode code 273 = .ok (.i2l, 1) := by decide +kernel
theorem d_L_law_274 : decode code 274 = .ok (.bipush 32, 2) := by decide +kernel
theorem d_L_law_276 : decode code 276 = .ok (.lshl, 1) := by decide +kernel
theorem d_L_law_277 : decode code 277 = .ok (.aload_n 0, 1) := by decide +kernel
theorem d_L_law_278 : decode code 278 = .ok (.iload_n 3, 1) := by decide +kernel
theorem d_L_law_279 : decode code 279 = .ok (.iconst 3, 1) := by decide +kernel
theorem d_L_law_280 : decode code 280 = .ok (.iadd, 1) := by decide +kernel
theorem d_L_law_281 : decode code 281 = .ok (.iaload, 1) := by decide +kernel
theorem d_L_law_282 : decode code 282 = .ok (.i2l, 1) := by decide +kernel
theorem d_L_law_283 : decode code 283 = .ok (.ldc2_w 18, 3) := by decide +kernel
theorem d_L_law_286 : decode code 286 = .ok (.land, 1) := by decide +kernel
theorem d_L_law_287 : decode code 287 = .ok (.lor, 1) := by decide +kernel
theorem d_L_law_288 : decode code 288 = .ok (.invokevirtual 25, 3) := by decide +kernel
theorem d_L_law_291 : decode code 291 = .ok (.pop, 1) := by decide +kernel
theorem d_L_law_292 : decode code 292 = .ok (.aload_n 2, 1) := by decide +kernel
theorem d_L_law_293 : decode code 293 = .ok (.aload_n 0, 1) := by decide +kernel
theorem d_L_law_294 : decode code 294 = .ok (.iload_n 3, 1) := by decide +kernel
theorem d_L_law_295 : decode code 295 = .ok (.iconst 1, 1) := by decide +kernel
theorem d_L_law_296 : decode code 296 = .ok (.iadd, 1) := by decide +kernel
theorem d_L_law_297 : decode code 297 = .ok (.iaload, 1) := by decide +kernel
theorem d_L_law_298 : decode code 298 = .ok (.aload_n 0, 1) := by decide +kernel
theorem d_L_law_299 : decode code 299 = .ok (.iload_n 3, 1) := by decide +kernel
theorem d_L_law_300 : decode code 300 = .ok (.iconst 2, 1) := by decide +kernel
theorem d_L_law_301 : decode code 301 = .ok (.iadd, 1) := by decide +kernel
theorem d_L_law_302 : decode code 302 = .ok (.iaload, 1) := by decide +kernel
theorem d_L_law_303 : decode code 303 = .ok (.i2l, 1) := by decide +kernel
theorem d_L_law_304 : decode code 304 = .ok (.bipush 32, 2) := by decide +kernel
theorem d_L_law_306 : decode code 306 = .ok (.lshl, 1) := by decide +kernel
theorem d_L_law_307 : decode code 307 = .ok (.aload_n 0, 1) := by decide +kernel
theorem d_L_law_308 : decode code 308 = .ok (.iload_n 3, 1) := by decide +kernel
theorem d_L_law_309 : decode code 309 = .ok (.iconst 3, 1) := by decide +kernel
theorem d_L_law_310 : decode code 310 = .ok (.iadd, 1) := by decide +kernel
theorem d_L_law_311 : decode code 311 = .ok (.iaload, 1) := by decide +kernel
theorem d_L_law_312 : decode code 312 = .ok (.i2l, 1) := by decide +kernel
theorem d_L_law_313 : decode code 313 = .ok (.ldc2_w 18, 3) := by decide +kernel
theorem d_L_law_316 : decode code 316 = .ok (.land, 1) := by decide +kernel
theorem d_L_law_317 : decode code 317 = .ok (.lor, 1) := by decide +kernel
theorem d_L_law_318 : decode code 318 = .ok (.invokevirtual 29, 3) := by decide +kernel
theorem d_L_law_321 : decode code 321 = .ok (.pop, 1) := by decide +kernel
theorem d_L_law_322 : decode code 322 = .ok (.goto 251, 3) := by decide +kernel
theorem d_L_law_325 : decode code 325 = .ok (.aload_n 1, 1) := by decide +kernel
theorem d_L_law_326 : decode code 326 = .ok (.invokevirtual 30, 3) := by decide +kernel
theorem d_L_law_329 : decode code 329 = .ok (.aload_n 2, 1) := by decide +kernel
theorem d_L_law_330 : decode code 330 = .ok (.invokevirtual 33, 3) := by decide +kernel
theorem d_L_law_333 : decode code 333 = .ok (.goto 240, 3) := by decide +kernel
theorem d_L_law_336 : decode code 336 = .ok (.aload_n 1, 1) := by decide +kernel
theorem d_L_law_337 : decode code 337 = .ok (.aload_n 0, 1) := by decide +kernel
theorem d_L_law_338 : decode code 338 = .ok (.iload_n 3, 1) := by decide +kernel
theorem d_L_law_339 : decode code 339 = .ok (.iconst 1, 1) := by decide +kernel
theorem d_L_law_340 : decode code 340 = .ok (.iadd, 1) := by decide +kernel
theorem d_L_law_341 : decode code 341 = .ok (.iaload, 1) := by decide +kernel
theorem d_L_law_342 : decode code 342 = .ok (.aload_n 0, 1) := by decide +kernel
theorem d_L_law_343 : decode code 343 = .ok (.iload_n 3, 1) := by decide +kernel
theorem d_L_law_344 : decode code 344 = .ok (.iconst 2, 1) := by decide +kernel
theorem d_L_law_345 : decode code 345 = .ok (.iadd, 1) := by decide +kernel
theorem d_L_law_346 : decode code 346 = .ok (.iaload, 1) := by decide +kernel
theorem d_L_law_347 : decode code 347 = .ok (.invokevirtual 34, 3) := by decide +kernel
theorem d_L_law_350 : decode code 350 = .ok (.pop, 1) := by decide +kernel
theorem d_L_law_351 : decode code 351 = .ok (.aload_n 2, 1) := by decide +kernel
theorem d_L_law_352 : decode code 352 = .ok (.aload_n 0, 1) := by decide +kernel
theorem d_L_law_353 : decode code 353 = .ok (.iload_n 3, 1) := by decide +kernel
theorem d_L_law_354 : decode code 354 = .ok (.iconst 1, 1) := by decide +kernel
theorem d_L_law_355 : decode code 355 = .ok (.iadd, 1) := by decide +kernel
theorem d_L_law_356 : decode code 356 = .ok (.iaload, 1) := by decide +kernel
theorem d_L_law_357 : decode code 357 = .ok (.aload_n 0, 1) := by decide +kernel
theorem d_L_law_358 : decode code 358 = .ok (.iload_n 3, 1) := by decide +kernel
theorem d_L_law_359 : decode code 359 = .ok (.iconst 2, 1) := by decide +kernel
theorem d_L_law_360 : decode code 360 = .ok (.iadd, 1) := by decide +kernel
theorem d_L_law_361 : decode code 361 = .ok (.iaload, 1) := by decide +kernel
theorem d_L_law_362 : decode code 362 = .ok (.invokevirtual 38, 3) := by decide +kernel
theorem d_L_law_365 : decode code 365 = .ok (.pop, 1) := by decide +kernel
theorem d_L_law_366 : decode code 366 = .ok (.goto 207, 3) := by decide +kernel
theorem d_L_law_369 : decode code 369 = .ok (.aload_n 1, 1) := by decide +kernel
theorem d_L_law_370 : decode code 370 = .ok (.aload_n 0, 1) := by decide +kernel
theorem d_L_law_371 : decode code 371 = .ok (.iload_n 3, 1) := by decide +kernel
theorem d_L_law_372 : decode code 372 = .ok (.iconst 1, 1) := by decide +kernel
theorem d_L_law_373 : decode code 373 = .ok (.iadd, 1) := by decide +kernel
theorem d_L_law_374 : decode code 374 = .ok (.iaload, 1) := by decide +kernel
theorem d_L_law_375 : decode code 375 = .ok (.aload_n 0, 1) := by decide +kernel
theorem d_L_law_376 : decode code 376 = .ok (.iload_n 3, 1) := by decide +kernel
theorem d_L_law_377 : decode code 377 = .ok (.iconst 2, 1) := by decide +kernel
theorem d_L_law_378 : decode code 378 = .ok (.iadd, 1) := by decide +kernel
theorem d_L_law_379 : decode code 379 = .ok (.iaload, 1) := by decide +kernel
theorem d_L_law_380 : decode code 380 = .ok (.invokevirtual 39, 3) := by decide +kernel
theorem d_L_law_383 : decode code 383 = .ok (.pop, 1) := by decide +kernel
theorem d_L_law_384 : decode code 384 = .ok (.aload_n 2, 1) := by decide +kernel
theorem d_L_law_385 : decode code 385 = .ok (.aload_n 0, 1) := by decide +kernel
theorem d_L_law_386 : decode code 386 = .ok (.iload_n 3, 1) := by decide +kernel
theorem d_L_law_387 : decode code 387 = .ok (.iconst 1, 1) := by decide +kernel
theorem d_L_law_388 : decode code 388 = .ok (.iadd, 1) := by decide +kernel
theorem d_L_law_389 : decode code 389 = .ok (.iaload, 1) := by decide +kernel
theorem d_L_law_390 : decode code 390 = .ok (.aload_n 0, 1) := by decide +kernel
theorem d_L_law_391 : decode code 391 = .ok (.iload_n 3, 1) := by decide +kernel
theorem d_L_law_392 : decode code 392 = .ok (.iconst 2, 1) := by decide +kernel
theorem d_L_law_393 : decode code 393 = .ok (.iadd, 1) := by decide +kernel
theorem d_L_law_394 : decode code 394 = .ok (.iaload, 1) := by decide +kernel
theorem d_L_law_395 : decode code 395 = .ok (.invokevirtual 42, 3) := by decide +kernel
theorem d_L_law_398 : decode code 398 = .ok (.pop, 1) := by decide +kernel
theorem d_L_law_399 : decode code 399 = .ok (.goto 174, 3) := by decide +kernel
theorem d_L_law_402 : decode code 402 = .ok (.aload_n 1, 1) := by decide +kernel
theorem d_L_law_403 : decode code 403 = .ok (.aload_n 0, 1) := by decide +kernel
theorem d_L_law_404 : decode code 404 = .ok (.iload_n 3, 1) := by decide +kernel
theorem d_L_law_405 : decode code 405 = .ok (.iconst 1, 1) := by decide +kernel
theorem d_L_law_406 : decode code 406 = .ok (.iadd, 1) := by decide +kernel
theorem d_L_law_407 : decode code 407 = .ok (.iaload, 1) := by decide +kernel
theorem d_L_law_408 : decode code 408 = .ok (.invokevirtual 43, 3) := by decide +kernel
theorem d_L_law_411 : decode code 411 = .ok (.aload_n 2, 1) := by decide +kernel
theorem d_L_law_412 : decode code 412 = .ok (.aload_n 0, 1) := by decide +kernel
theorem d_L_law_413 : decode code 413 = .ok (.iload_n 3, 1) := by decide +kernel
theorem d_L_law_414 : decode code 414 = .ok (.iconst 1, 1) := by decide +kernel
theorem d_L_law_415 : decode code 415 = .ok (.iadd, 1) := by decide +kernel
theorem d_L_law_416 : decode code 416 = .ok (.iaload, 1) := by decide +kernel
theorem d_L_law_417 : decode code 417 = .ok (.invokevirtual 46, 3) := by decide +kernel
theorem d_L_law_420 : decode code 420 = .ok (.if_icmp .eq 153, 3) := by decide +kernel
theorem d_L_law_423 : decode code 423 = .ok (.iconst 0, 1) := by decide +kernel
theorem d_L_law_424 : decode code 424 = .ok (.ireturn, 1) := by decide +kernel
theorem d_L_law_425 : decode code 425 = .ok (.aload_n 1, 1) := by decide +kernel
theorem d_L_law_426 : decode code 426 = .ok (.aload_n 0, 1) := by decide +kernel
theorem d_L_law_427 : decode code 427 = .ok (.iload_n 3, 1) := by decide +kernel
theorem d_L_law_428 : decode code 428 = .ok (.iconst 1, 1) := by decide +kernel
theorem d_L_law_429 : decode code 429 = .ok (.iadd, 1) := by decide +kernel
theorem d_L_law_430 : decode code 430 = .ok (.iaload, 1) := by decide +kernel
theorem d_L_law_431 : decode code 431 = .ok (.invokevirtual 47, 3) := by decide +kernel
theorem d_L_law_434 : decode code 434 = .ok (.pop, 1) := by decide +kernel
theorem d_L_law_435 : decode code 435 = .ok (.aload_n 2, 1) := by decide +kernel
theorem d_L_law_436 : decode code 436 = .ok (.aload_n 0, 1) := by decide +kernel
theorem d_L_law_437 : decode code 437 = .ok (.iload_n 3, 1) := by decide +kernel
theorem d_L_law_438 : decode code 438 = .ok (.iconst 1, 1) := by decide +kernel
theorem d_L_law_439 : decode code 439 = .ok (.iadd, 1) := by decide +kernel
theorem d_L_law_440 : decode code 440 = .ok (.iaload, 1) := by decide +kernel
theorem d_L_law_441 : decode code 441 = .ok (.invokevirtual 51, 3) := by decide +kernel
theorem d_L_law_444 : decode code 444 = .ok (.pop, 1) := by decide +kernel
theorem d_L_law_445 : decode code 445 = .ok (.goto 128, 3) := by decide +kernel
theorem d_L_law_448 : decode code 448 = .ok (.aload_n 1, 1) := by decide +kernel
theorem d_L_law_449 : decode code 449 = .ok (.aload_n 0, 1) := by decide +kernel
theorem d_L_law_450 : decode code 450 = .ok (.iload_n 3, 1) := by decide +kernel
theorem d_L_law_451 : decode code 451 = .ok (.iconst 1, 1) := by decide +kernel
theorem d_L_law_452 : decode code 452 = .ok (.iadd, 1) := by decide +kernel
theorem d_L_law_453 : decode code 453 = .ok (.iaload, 1) := by decide +kernel
theorem d_L_law_454 : decode code 454 = .ok (.invokevirtual 52, 3) := by decide +kernel
theorem d_L_law_457 : decode code 457 = .ok (.pop, 1) := by decide +kernel
theorem d_L_law_458 : decode code 458 = .ok (.aload_n 2, 1) := by decide +kernel
theorem d_L_law_459 : decode code 459 = .ok (.aload_n 0, 1) := by decide +kernel
theorem d_L_law_460 : decode code 460 = .ok (.iload_n 3, 1) := by decide +kernel
theorem d_L_law_461 : decode code 461 = .ok (.iconst 1, 1) := by decide +kernel
theorem d_L_law_462 : decode code 462 = .ok (.iadd, 1) := by decide +kernel
theorem d_L_law_463 : decode code 463 = .ok (.iaload, 1) := by decide +kernel
theorem d_L_law_464 : decode code 464 = .ok (.invokevirtual 55, 3) := by decide +kernel
theorem d_L_law_467 : decode code 467 = .ok (.pop, 1) := by decide +kernel
theorem d_L_law_468 : decode code 468 = .ok (.goto 105, 3) := by decide +kernel
theorem d_L_law_471 : decode code 471 = .ok (.aload_n 1, 1) := by decide +kernel
theorem d_L_law_472 : decode code 472 = .ok (.aload_n 0, 1) := by decide +kernel
theorem d_L_law_473 : decode code 473 = .ok (.iload_n 3, 1) := by decide +kernel
theorem d_L_law_474 : decode code 474 = .ok (.iconst 1, 1) := by decide +kernel
theorem d_L_law_475 : decode code 475 = .ok (.iadd, 1) := by decide +kernel
theorem d_L_law_476 : decode code 476 = .ok (.iaload, 1) := by decide +kernel
theorem d_L_law_477 : decode code 477 = .ok (.aload_n 0, 1) := by decide +kernel
theorem d_L_law_478 : decode code 478 = .ok (.iload_n 3, 1) := by decide +kernel
theorem d_L_law_479 : decode code 479 = .ok (.iconst 2, 1) := by decide +kernel
theorem d_L_law_480 : decode code 480 = .ok (.iadd, 1) := by decide +kernel
theorem d_L_law_481 : decode code 481 = .ok (.iaload, 1) := by decide +kernel
theorem d_L_law_482 : decode code 482 = .ok (.invokevirtual 56, 3) := by decide +kernel
theorem d_L_law_485 : decode code 485 = .ok (.pop, 1) := by decide +kernel
theorem d_L_law_486 : decode code 486 = .ok (.aload_n 2, 1) := by decide +kernel
theorem d_L_law_487 : decode code 487 = .ok (.aload_n 0, 1) := by decide +kernel
theorem d_L_law_488 : decode code 488 = .ok (.iload_n 3, 1) := by decide +kernel
theorem d_L_law_489 : decode code 489 = .ok (.iconst 1, 1) := by decide +kernel
theorem d_L_law_490 : decode code 490 = .ok (.iadd, 1) := by decide +kernel
theorem d_L_law_491 : decode code 491 = .ok (.iaload, 1) := by decide +kernel
theorem d_L_law_492 : decode code 492 = .ok (.aload_n 0, 1) := by decide +kernel
theorem d_L_law_493 : decode code 493 = .ok (.iload_n 3, 1) := by decide +kernel
theorem d_L_law_494 : decode code 494 = .ok (.iconst 2, 1) := by decide +kernel
theorem d_L_law_495 : decode code 495 = .ok (.iadd, 1) := by decide +kernel
theorem d_L_law_496 : decode code 496 = .ok (.iaload, 1) := by decide +kernel
theorem d_L_law_497 : decode code 497 = .ok (.invokevirtual 60, 3) := by decide +kernel
theorem d_L_law_500 : decode code 500 = .ok (.pop, 1) := by decide +kernel
theorem d_L_law_501 : decode code 501 = .ok (.goto 72, 3) := by decide +kernel
theorem d_L_law_504 : decode code 504 = .ok (.aload_n 1, 1) := by decide +kernel
theorem d_L_law_505 : decode code 505 = .ok (.aload_n 0, 1) := by decide +kernel
theorem d_L_law_506 : decode code 506 = .ok (.iload_n 3, 1) := by decide +kernel
theorem d_L_law_507 : decode code 507 = .ok (.iconst 1, 1) := by decide +kernel
theorem d_L_law_508 : decode code 508 = .ok (.iadd, 1) := by decide +kernel
theorem d_L_law_509 : decode code 509 = .ok (.iaload, 1) := by decide +kernel
theorem d_L_law_510 : decode code 510 = .ok (.aload_n 0, 1) := by decide +kernel
theorem d_L_law_511 : decode code 511 = .ok (.iload_n 3, 1) := by decide +kernel
theorem d_L_law_512 : decode code 512 = .ok (.iconst 2, 1) := by decide +kernel
theorem d_L_law_513 : decode code 513 = .ok (.iadd, 1) := by decide +kernel
theorem d_L_law_514 : decode code 514 = .ok (.iaload, 1) := by decide +kernel
theorem d_L_law_515 : decode code 515 = .ok (.invokevirtual 61, 3) := by decide +kernel
theorem d_L_law_518 : decode code 518 = .ok (.pop, 1) := by decide +kernel
theorem d_L_law_519 : decode code 519 = .ok (.aload_n 2, 1) := by decide +kernel
theorem d_L_law_520 : decode code 520 = .ok (.aload_n 0, 1) := by decide +kernel
theorem d_L_law_521 : decode code 521 = .ok (.iload_n 3, 1) := by decide +kernel
theorem d_L_law_522 : decode code 522 = .ok (.iconst 1, 1) := by decide +kernel
theorem d_L_law_523 : decode code 523 = .ok (.iadd, 1) := by decide +kernel
theorem d_L_law_524 : decode code 524 = .ok (.iaload, 1) := by decide +kernel
theorem d_L_law_525 : decode code 525 = .ok (.aload_n 0, 1) := by decide +kernel
theorem d_L_law_526 : decode code 526 = .ok (.iload_n 3, 1) := by decide +kernel
theorem d_L_law_527 : decode code 527 = .ok (.iconst 2, 1) := by decide +kernel
theorem d_L_law_528 : decode code 528 = .ok (.iadd, 1) := by decide +kernel
theorem d_L_law_529 : decode code 529 = .ok (.iaload, 1) := by decide +kernel
theorem d_L_law_530 : decode code 530 = .ok (.invokevirtual 64, 3) := by decide +kernel
theorem d_L_law_533 : decode code 533 = .ok (.pop, 1) := by decide +kernel
theorem d_L_law_534 : decode code 534 = .ok (.goto 39, 3) := by decide +kernel
theorem d_L_law_537 : decode code 537 = .ok (.aload_n 1, 1) := by decide +kernel
theorem d_L_law_538 : decode code 538 = .ok (.invokevirtual 65, 3) := by decide +kernel
theorem d_L_law_541 : decode code 541 = .ok (.pop, 1) := by decide +kernel
theorem d_L_law_542 : decode code 542 = .ok (.aload_n 2, 1) := by decide +kernel
theorem d_L_law_543 : decode code 543 = .ok (.invokevirtual 69, 3) := by decide +kernel
theorem d_L_law_546 : decode code 546 = .ok (.pop, 1) := by decide +kernel
theorem d_L_law_547 : decode code 547 = .ok (.goto 26, 3) := by decide +kernel
theorem d_L_law_550 : decode code 550 = .ok (.aload_n 1, 1) := by decide +kernel
theorem d_L_law_551 : decode code 551 = .ok (.aload_n 0, 1) := by decide +kernel
theorem d_L_law_552 : decode code 552 = .ok (.iload_n 3, 1) := by decide +kernel
theorem d_L_law_553 : decode code 553 = .ok (.iconst 1, 1) := by decide +kernel
theorem d_L_law_554 : decode code 554 = .ok (.iadd, 1) := by decide +kernel
theorem d_L_law_555 : decode code 555 = .ok (.iaload, 1) := by decide +kernel
theorem d_L_law_556 : decode code 556 = .ok (.invokevirtual 70, 3) := by decide +kernel
theorem d_L_law_559 : decode code 559 = .ok (.pop, 1) := by decide +kernel
theorem d_L_law_560 : decode code 560 = .ok (.aload_n 2, 1) := by decide +kernel
theorem d_L_law_561 : decode code 561 = .ok (.aload_n 0, 1) := by decide +kernel
theorem d_L_law_562 : decode code 562 = .ok (.iload_n 3, 1) := by decide +kernel
theorem d_L_law_563 : decode code 563 = .ok (.iconst 1, 1) := by decide +kernel
theorem d_L_law_564 : decode code 564 = .ok (.iadd, 1) := by decide +kernel
theorem d_L_law_565 : decode code 565 = .ok (.iaload, 1) := by decide +kernel
theorem d_L_law_566 : decode code 566 = .ok (.invokevirtual 73, 3) := by decide +kernel
theorem d_L_law_569 : decode code 569 = .ok (.pop, 1) := by decide +kernel
theorem d_L_law_570 : decode code 570 = .ok (.goto 3, 3) := by decide +kernel
theorem d_L_law_573 : decode code 573 = .ok (.iinc 3 9, 3) := by decide +kernel
theorem d_L_law_576 : decode code 576 = .ok (.goto (-558), 3) := by decide +kernel
theorem d_L_law_579 : decode code 579 = .ok (.iconst 1, 1) := by decide +kernel
theorem d_L_law_580 : decode code 580 = .ok (.ireturn, 1) := by decide +kernel
abbrev X_L_law (p : Program) (l : Launch) (e : Env) (s : State) (m : MethodId) (below : List Frame) (meth : Method) (c : Code) (B : AB) (n0 m0 b : Nat) (h : AH) (pc : Nat) (lv : List (Nat × Value)) (st : List Value) (comp : Option (Int32 × AH)) : Prop := XX p l e room_1 s m #[Value.ref b] below meth c code o_L lw_tt 4 ret meth.name B n0 m0 (QL below b s) h pc lv st comp
def f_L_law_b18 (L : Nat) (xs : Nat → Int32) : Nat → Nat → Nat → Int32 → AH → Option (Int32 × AH)
  | 0, _, _, _, _ => none
  | n + 1, a1, a2, x3, h => (if ((nI L) - (9 : Int32)) < x3 then some ((1 : Int32), h) else (sE L xs x3).bind (fun x1001 => (if (x1001 &&& (15 : Int32)) = 0 then (sE L xs (x3 + (1 : Int32))).bind (fun x1002 => rcv h 3 (some a1) (fun b1005 => bnd (f_D_begin b1005 x1002 h) (fun x1004 h1003 => (sE L xs (x3 + (1 : Int32))).bind (fun x1006 => rcv h1003 4 (some a2) (fun b1009 => bnd (f_M_begin b1009 x1006 h1003) (fun x1008 h1007 => f_L_law_b18 L xs n a1 a2 (x3 + (9)) h1007)))))) else (if (x1001 &&& (15 : Int32)) = 1 then (sE L xs (x3 + (1 : Int32))).bind (fun x1010 => (sE L xs (x3 + (2 : Int32))).bind (fun x1011 => (sE L xs (x3 + (3 : Int32))).bind (fun x1012 => (sE L xs (x3 + (4 : Int32))).bind (fun x1013 => (sE L xs (x3 + (5 : Int32))).bind (fun x1014 => (sE L xs (x3 + (6 : Int32))).bind (fun x1015 => (sE L xs (x3 + (7 : Int32))).bind (fun x1016 => (sE L xs (x3 + (8 : Int32))).bind (fun x1017 => rcv h 3 (some a1) (fun b1020 => bnd (f_D_read b1020 x1010 x1011 x1012 (((Int32.toInt64 x1013) <<< (Int32.toInt64 (32 : Int32) &&& 63)) ||| ((Int32.toInt64 x1014) &&& (4294967295 : Int64))) (((Int32.toInt64 x1015) <<< (Int32.toInt64 (32 : Int32) &&& 63)) ||| ((Int32.toInt64 x1016) &&& (4294967295 : Int64))) x1017 h) (fun x1019 h1018 => (sE L xs (x3 + (1 : Int32))).bind (fun x1021 => (sE L xs (x3 + (2 : Int32))).bind (fun x1022 => (sE L xs (x3 + (3 : Int32))).bind (fun x1023 => (sE L xs (x3 + (4 : Int32))).bind (fun x1024 => (sE L xs (x3 + (5 : Int32))).bind (fun x1025 => (sE L xs (x3 + (6 : Int32))).bind (fun x1026 => (sE L xs (x3 + (7 : Int32))).bind (fun x1027 => (sE L xs (x3 + (8 : Int32))).bind (fun x1028 => rcv h1018 4 (some a2) (fun b1031 => bnd (f_M_read b1031 x1021 x1022 x1023 (((Int32.toInt64 x1024) <<< (Int32.toInt64 (32 : Int32) &&& 63)) ||| ((Int32.toInt64 x1025) &&& (4294967295 : Int64))) (((Int32.toInt64 x1026) <<< (Int32.toInt64 (32 : Int32) &&& 63)) ||| ((Int32.toInt64 x1027) &&& (4294967295 : Int64))) x1028 h1018) (fun x1030 h1029 => f_L_law_b18 L xs n a1 a2 (x3 + (9)) h1029)))))))))))))))))))) else (if (x1001 &&& (15 : Int32)) = 2 then (sE L xs (x3 + (1 : Int32))).bind (fun x1032 => (sE L xs (x3 + (2 : Int32))).bind (fun x1033 => (sE L xs (x3 + (3 : Int32))).bind (fun x1034 => rcv h 3 (some a1) (fun b1037 => bnd (f_D_cell b1037 x1032 (((Int32.toInt64 x1033) <<< (Int32.toInt64 (32 : Int32) &&& 63)) ||| ((Int32.toInt64 x1034) &&& (4294967295 : Int64))) h) (fun x1036 h1035 => (sE L xs (x3 + (1 : Int32))).bind (fun x1038 => (sE L xs (x3 + (2 : Int32))).bind (fun x1039 => (sE L xs (x3 + (3 : Int32))).bind (fun x1040 => rcv h1035 4 (some a2) (fun b1043 => bnd (f_M_cell b1043 x1038 (((Int32.toInt64 x1039) <<< (Int32.toInt64 (32 : Int32) &&& 63)) ||| ((Int32.toInt64 x1040) &&& (4294967295 : Int64))) h1035) (fun x1042 h1041 => f_L_law_b18 L xs n a1 a2 (x3 + (9)) h1041)))))))))) else (if (x1001 &&& (15 : Int32)) = 3 then rcv h 3 (some a1) (fun b1045 => bndU (f_D_clear b1045 h) (fun h1044 => rcv h1044 4 (some a2) (fun b1047 => bndU (f_M_clear b1047 h1044) (fun h1046 => f_L_law_b18 L xs n a1 a2 (x3 + (9)) h1046)))) else (if (x1001 &&& (15 : Int32)) = 4 then (sE L xs (x3 + (1 : Int32))).bind (fun x1048 => (sE L xs (x3 + (2 : Int32))).bind (fun x1049 => rcv h 3 (some a1) (fun b1052 => bnd (f_D_write b1052 x1048 x1049 h) (fun x1051 h1050 => (sE L xs (x3 + (1 : Int32))).bind (fun x1053 => (sE L xs (x3 + (2 : Int32))).bind (fun x1054 => rcv h1050 4 (some a2) (fun b1057 => bnd (f_M_write b1057 x1053 x1054 h1050) (fun x1056 h1055 => f_L_law_b18 L xs n a1 a2 (x3 + (9)) h1055)))))))) else (if (x1001 &&& (15 : Int32)) = 5 then (sE L xs (x3 + (1 : Int32))).bind (fun x1058 => (sE L xs (x3 + (2 : Int32))).bind (fun x1059 => rcv h 3 (some a1) (fun b1062 => bnd (f_D_miss b1062 x1058 x1059 h) (fun x1061 h1060 => (sE L xs (x3 + (1 : Int32))).bind (fun x1063 => (sE L xs (x3 + (2 : Int32))).bind (fun x1064 => rcv h1060 4 (some a2) (fun b1067 => bnd (f_M_miss b1067 x1063 x1064 h1060) (fun x1066 h1065 => f_L_law_b18 L xs n a1 a2 (x3 + (9)) h1065)))))))) else (if (x1001 &&& (15 : Int32)) = 6 then (sE L xs (x3 + (1 : Int32))).bind (fun x1068 => rcv h 3 (some a1) (fun b1071 => bnd (f_D_commit b1071 x1068 h) (fun x1070 h1069 => (sE L xs (x3 + (1 : Int32))).bind (fun x1072 => rcv h1069 4 (some a2) (fun b1075 => bnd (f_M_commit b1075 x1072 h1069) (fun x1074 h1073 => (if x1070 = x1074 then f_L_law_b18 L xs n a1 a2 (x3 + (9)) h1073 else some ((0 : Int32), h1073)))))))) else (if (x1001 &&& (15 : Int32)) = 7 then (sE L xs (x3 + (1 : Int32))).bind (fun x1076 => rcv h 3 (some a1) (fun b1079 => bnd (f_D_abort b1079 x1076 h) (fun x1078 h1077 => (sE L xs (x3 + (1 : Int32))).bind (fun x1080 => rcv h1077 4 (some a2) (fun b1083 => bnd (f_M_abort b1083 x1080 h1077) (fun x1082 h1081 => f_L_law_b18 L xs n a1 a2 (x3 + (9)) h1081)))))) else (if (x1001 &&& (15 : Int32)) = 8 then (sE L xs (x3 + (1 : Int32))).bind (fun x1084 => rcv h 3 (some a1) (fun b1087 => bnd (f_D_doom b1087 x1084 h) (fun x1086 h1085 => (sE L xs (x3 + (1 : Int32))).bind (fun x1088 => rcv h1085 4 (some a2) (fun b1091 => bnd (f_M_doom b1091 x1088 h1085) (fun x1090 h1089 => f_L_law_b18 L xs n a1 a2 (x3 + (9)) h1089)))))) else (if (x1001 &&& (15 : Int32)) = 9 then (sE L xs (x3 + (1 : Int32))).bind (fun x1092 => (sE L xs (x3 + (2 : Int32))).bind (fun x1093 => rcv h 3 (some a1) (fun b1096 => bnd (f_D_look b1096 x1092 x1093 h) (fun x1095 h1094 => (sE L xs (x3 + (1 : Int32))).bind (fun x1097 => (sE L xs (x3 + (2 : Int32))).bind (fun x1098 => rcv h1094 4 (some a2) (fun b1101 => bnd (f_M_look b1101 x1097 x1098 h1094) (fun x1100 h1099 => f_L_law_b18 L xs n a1 a2 (x3 + (9)) h1099)))))))) else (if (x1001 &&& (15 : Int32)) = 10 then (sE L xs (x3 + (1 : Int32))).bind (fun x1102 => (sE L xs (x3 + (2 : Int32))).bind (fun x1103 => rcv h 3 (some a1) (fun b1106 => bnd (f_D_arrow b1106 x1102 x1103 h) (fun x1105 h1104 => (sE L xs (x3 + (1 : Int32))).bind (fun x1107 => (sE L xs (x3 + (2 : Int32))).bind (fun x1108 => rcv h1104 4 (some a2) (fun b1111 => bnd (f_M_arrow b1111 x1107 x1108 h1104) (fun x1110 h1109 => f_L_law_b18 L xs n a1 a2 (x3 + (9)) h1109)))))))) else (if (x1001 &&& (15 : Int32)) = 11 then rcv h 3 (some a1) (fun b1114 => bnd (f_D_rings b1114 h) (fun x1113 h1112 => rcv h1112 4 (some a2) (fun b1117 => bnd (f_M_rings b1117 h1112) (fun x1116 h1115 => f_L_law_b18 L xs n a1 a2 (x3 + (9)) h1115)))) else (if (x1001 &&& (15 : Int32)) = 12 then (sE L xs (x3 + (1 : Int32))).bind (fun x1118 => rcv h 3 (some a1) (fun b1121 => bnd (f_D_count b1121 x1118 h) (fun x1120 h1119 => (sE L xs (x3 + (1 : Int32))).bind (fun x1122 => rcv h1119 4 (some a2) (fun b1125 => bnd (f_M_count b1125 x1122 h1119) (fun x1124 h1123 => f_L_law_b18 L xs n a1 a2 (x3 + (9)) h1123)))))) else f_L_law_b18 L xs n a1 a2 (x3 + (9)) h)))))))))))))))
def f_L_law (L : Nat) (xs : Nat → Int32) (h : AH) : Option (Int32 × AH) := nOk h 3 [.null, .null, .null, .int 0, .int 0, .int 0] (fun a101 h102 => bndU (f_D_init a101 h102) (fun h103 => nOk h103 4 [.int 0, .int 0, .int 0, .null, .null, .null, .null, .null, .null, .null, .null, .null, .null, .null, .null, .null, .null, .null, .null, .null, .null, .null] (fun a104 h105 => bndU (f_M_init a104 h105) (fun h106 => f_L_law_b18 L xs 2000 a101 a104 (0 : Int32) h106))))
set_option maxHeartbeats 4000000 in
set_option maxRecDepth 100000 in
theorem x_L_law_b18 {p : Program} {l : Launch} {e : Env} {s : State} {m : MethodId} {below : List Frame} {meth : Method} {c : Code} {B : AB} {n0 m0 : Nat} {b L : Nat} {xs : Nat → Int32} (hX : va_X b L xs s B.2.2.2) (hb : b < B.2.2.1) (hB : B.2.2.1 = s.heap.size) : ∀ (n : Nat) (a1 : Nat) (a2 : Nat) (x3 : Int32) (h : AH), X_L_law p l e s m below meth c B n0 m0 b h 18 [(0, .ref b), (1, .ref a1), (2, .ref a2), (3, .int x3)] [] (f_L_law_b18 L xs n a1 a2 x3 h) := by
  intro n
  induction n with
  | zero => intro a1 a2 x3 h; exact x_none
  | succ n ih =>
    intro a1 a2 x3 h
    rw [f_L_law_b18]
    refine x_go (pc' := 19) (st' := [.int x3]) (fun hC _ _ _ _ _ _ hl k => lv_iload_n hC.1 hC.2.1 d_L_law_18 rfl (lv_at hl 3 rfl) k) ?_
    refine x_go (pc' := 20) (st' := [.ref b, .int x3]) (fun hC _ _ _ _ _ _ hl k => lv_aload_n hC.1 hC.2.1 d_L_law_19 rfl (lv_at hl 0 rfl) k) ?_
    refine x_slen hX hb d_L_law_20 ?_
    refine x_go (pc' := 23) (st' := [.int (9 : Int32), .int (nI L), .int x3]) (fun hC _ _ _ _ _ _ hl k => lv_bipush (v := 9) hC.1 hC.2.1 d_L_law_21 (by decide) k) ?_
    refine x_go (pc' := 24) (st' := [.int ((nI L) - (9 : Int32)), .int x3]) (fun hC _ _ _ _ _ _ hl k => lv_isub hC.1 hC.2.1 d_L_law_23 k) ?_
    refine x_if (P := ((nI L) - (9 : Int32)) < x3) (pt := 579) (pf := 27) (st' := []) (fun hC _ _ _ _ _ _ kt kf => lv_icmp_gt (tgt := 579) hC.1 hC.2.1 d_L_law_24 (by decide) kt kf) ?_ ?_
    · refine x_go (pc' := 580) (st' := [.int (1 : Int32)]) (fun hC _ _ _ _ _ _ hl k => lv_iconst (v := 1) hC.1 hC.2.1 d_L_law_579 (by decide) k) ?_
      exact x_lawret hB d_L_law_580
    · refine x_go (pc' := 28) (st' := [.ref b]) (fun hC _ _ _ _ _ _ hl k => lv_aload_n hC.1 hC.2.1 d_L_law_27 rfl (lv_at hl 0 rfl) k) ?_
      refine x_go (pc' := 29) (st' := [.int x3, .ref b]) (fun hC _ _ _ _ _ _ hl k => lv_iload_n hC.1 hC.2.1 d_L_law_28 rfl (lv_at hl 3 rfl) k) ?_
      refine x_sld hX hb (i := x3) d_L_law_29 (fun x1001 => ?_)
      refine x_go (pc' := 32) (st' := [.int (15 : Int32), .int x1001]) (fun hC _ _ _ _ _ _ hl k => lv_bipush (v := 15) hC.1 hC.2.1 d_L_law_30 (by decide) k) ?_
      refine x_go (pc' := 33) (st' := [.int (x1001 &&& (15 : Int32))]) (fun hC _ _ _ _ _ _ hl k => lv_iand hC.1 hC.2.1 d_L_law_32 k) ?_
      refine x_split (P := (x1001 &&& (15 : Int32)) = 0) (fun ec => ?_) (fun ed0 => ?_)
      · refine x_go (pc' := 100) (st' := []) (fun hC _ _ _ _ _ _ hl k => lv_tableIn (tgt := 100) hC.1 hC.2.1 d_L_law_33 (by rw [ec]; decide) (by rw [ec]; decide) (by rw [ec]; rfl) (by decide) k) ?_
        refine x_go (pc' := 101) (st' := [.ref a1]) (fun hC _ _ _ _ _ _ hl k => lv_aload_n hC.1 hC.2.1 d_L_law_100 rfl (lv_at hl 1 rfl) k) ?_
        refine x_go (pc' := 102) (st' := [.ref b, .ref a1]) (fun hC _ _ _ _ _ _ hl k => lv_aload_n hC.1 hC.2.1 d_L_law_101 rfl (lv_at hl 0 rfl) k) ?_
        refine x_go (pc' := 103) (st' := [.int x3, .ref b, .ref a1]) (fun hC _ _ _ _ _ _ hl k => lv_iload_n hC.1 hC.2.1 d_L_law_102 rfl (lv_at hl 3 rfl) k) ?_
        refine x_go (pc' := 104) (st' := [.int (1 : Int32), .int x3, .ref b, .ref a1]) (fun hC _ _ _ _ _ _ hl k => lv_iconst (v := 1) hC.1 hC.2.1 d_L_law_103 (by decide) k) ?_
        refine x_go (pc' := 105) (st' := [.int (x3 + (1 : Int32)), .ref b, .ref a1]) (fun hC _ _ _ _ _ _ hl k => lv_iadd hC.1 hC.2.1 d_L_law_104 k) ?_
        refine x_sld hX hb (i := (x3 + (1 : Int32))) d_L_law_105 (fun x1002 => ?_)
        refine x_recv (ci := 3) (r := (some a1)) (fun b1005 _ eb1005 gb1005 => ?_)
        refine x_callI (rest := []) (c_D_begin l B b1005 x1002 h) (fun hC => fun e1 e2 e3 e4 hM => fun hR hsz hc hs => run_V (n := 1) hC lw_good rfl rfl tw_50 tw_51 tw_52 tw_1 tw_53 (by decide) d_L_law_106 gb1005 (by rw [e1]; exact Nat.le_of_ble_eq_true rfl) (by rw [e2]; exact Nat.le_of_ble_eq_true rfl) e3 e4 hM hR hsz hc hs rfl (by cases eb1005; rfl) (Nat.le_of_ble_eq_true rfl)) (fun x1004 h1003 => ?_)
        refine x_go (pc' := 110) (st' := []) (fun hC _ _ _ _ _ _ hl k => lv_pop hC.1 hC.2.1 d_L_law_109 rfl k) ?_
        refine x_go (pc' := 111) (st' := [.ref a2]) (fun hC _ _ _ _ _ _ hl k => lv_aload_n hC.1 hC.2.1 d_L_law_110 rfl (lv_at hl 2 rfl) k) ?_
        refine x_go (pc' := 112) (st' := [.ref b, .ref a2]) (fun hC _ _ _ _ _ _ hl k => lv_aload_n hC.1 hC.2.1 d_L_law_111 rfl (lv_at hl 0 rfl) k) ?_
        refine x_go (pc' := 113) (st' := [.int x3, .ref b, .ref a2]) (fun hC _ _ _ _ _ _ hl k => lv_iload_n hC.1 hC.2.1 d_L_law_112 rfl (lv_at hl 3 rfl) k) ?_
        refine x_go (pc' := 114) (st' := [.int (1 : Int32), .int x3, .ref b, .ref a2]) (fun hC _ _ _ _ _ _ hl k => lv_iconst (v := 1) hC.1 hC.2.1 d_L_law_113 (by decide) k) ?_
        refine x_go (pc' := 115) (st' := [.int (x3 + (1 : Int32)), .ref b, .ref a2]) (fun hC _ _ _ _ _ _ hl k => lv_iadd hC.1 hC.2.1 d_L_law_114 k) ?_
        refine x_sld hX hb (i := (x3 + (1 : Int32))) d_L_law_115 (fun x1006 => ?_)
        refine x_recv (ci := 4) (r := (some a2)) (fun b1009 _ eb1009 gb1009 => ?_)
        refine x_callI (rest := []) (c_M_begin l B b1009 x1006 h1003) (fun hC => fun e1 e2 e3 e4 hM => fun hR hsz hc hs => run_V (n := 1) hC lw_good rfl rfl tw_381 tw_382 tw_383 tw_3 tw_384 (by decide) d_L_law_116 gb1009 (by rw [e1]; exact Nat.le_of_ble_eq_true rfl) (by rw [e2]; exact Nat.le_of_ble_eq_true rfl) e3 e4 hM hR hsz hc hs rfl (by cases eb1009; rfl) (Nat.le_of_ble_eq_true rfl)) (fun x1008 h1007 => ?_)
        refine x_go (pc' := 120) (st' := []) (fun hC _ _ _ _ _ _ hl k => lv_pop hC.1 hC.2.1 d_L_law_119 rfl k) ?_
        refine x_go (pc' := 573) (st' := []) (fun hC _ _ _ _ _ _ hl k => lv_goto (tgt := 573) hC.1 hC.2.1 d_L_law_120 (by decide) k) ?_
        refine x_lift (pc' := 576) (st' := []) (lv' := [(3, .int (x3 + (9))), (0, .ref b), (1, .ref a1), (2, .ref a2)]) (fun hC _ _ _ _ _ _ hl k => lv_iinc (v := (x3 + (9))) hC.1 hC.2.1 d_L_law_573 hl (k := 3) rfl rfl (by decide) rfl k) ?_
        refine x_go (pc' := 18) (st' := []) (fun hC _ _ _ _ _ _ hl k => lv_goto (tgt := 18) hC.1 hC.2.1 d_L_law_576 (by decide) k) ?_
        exact x_sub (lv' := [(0, .ref b), (1, .ref a1), (2, .ref a2), (3, .int (x3 + (9)))]) [1, 2, 3, 0] rfl (ih a1 a2 (x3 + (9)) h1007)
      refine x_split (P := (x1001 &&& (15 : Int32)) = 1) (fun ec => ?_) (fun ed1 => ?_)
      · refine x_go (pc' := 123) (st' := []) (fun hC _ _ _ _ _ _ hl k => lv_tableIn (tgt := 123) hC.1 hC.2.1 d_L_law_33 (by rw [ec]; decide) (by rw [ec]; decide) (by rw [ec]; rfl) (by decide) k) ?_
        refine x_go (pc' := 124) (st' := [.ref a1]) (fun hC _ _ _ _ _ _ hl k => lv_aload_n hC.1 hC.2.1 d_L_law_123 rfl (lv_at hl 1 rfl) k) ?_
        refine x_go (pc' := 125) (st' := [.ref b, .ref a1]) (fun hC _ _ _ _ _ _ hl k => lv_aload_n hC.1 hC.2.1 d_L_law_124 rfl (lv_at hl 0 rfl) k) ?_
        refine x_go (pc' := 126) (st' := [.int x3, .ref b, .ref a1]) (fun hC _ _ _ _ _ _ hl k => lv_iload_n hC.1 hC.2.1 d_L_law_125 rfl (lv_at hl 3 rfl) k) ?_
        refine x_go (pc' := 127) (st' := [.int (1 : Int32), .int x3, .ref b, .ref a1]) (fun hC _ _ _ _ _ _ hl k => lv_iconst (v := 1) hC.1 hC.2.1 d_L_law_126 (by decide) k) ?_
        refine x_go (pc' := 128) (st' := [.int (x3 + (1 : Int32)), .ref b, .ref a1]) (fun hC _ _ _ _ _ _ hl k => lv_iadd hC.1 hC.2.1 d_L_law_127 k) ?_
        refine x_sld hX hb (i := (x3 + (1 : Int32))) d_L_law_128 (fun x1010 => ?_)
        refine x_go (pc' := 130) (st' := [.ref b, .int x1010, .ref a1]) (fun hC _ _ _ _ _ _ hl k => lv_aload_n hC.1 hC.2.1 d_L_law_129 rfl (lv_at hl 0 rfl) k) ?_
        refine x_go (pc' := 131) (st' := [.int x3, .ref b, .int x1010, .ref a1]) (fun hC _ _ _ _ _ _ hl k => lv_iload_n hC.1 hC.2.1 d_L_law_130 rfl (lv_at hl 3 rfl) k) ?_
        refine x_go (pc' := 132) (st' := [.int (2 : Int32), .int x3, .ref b, .int x1010, .ref a1]) (fun hC _ _ _ _ _ _ hl k => lv_iconst (v := 2) hC.1 hC.2.1 d_L_law_131 (by decide) k) ?_
        refine x_go (pc' := 133) (st' := [.int (x3 + (2 : Int32)), .ref b, .int x1010, .ref a1]) (fun hC _ _ _ _ _ _ hl k => lv_iadd hC.1 hC.2.1 d_L_law_132 k) ?_
        refine x_sld hX hb (i := (x3 + (2 : Int32))) d_L_law_133 (fun x1011 => ?_)
        refine x_go (pc' := 135) (st' := [.ref b, .int x1011, .int x1010, .ref a1]) (fun hC _ _ _ _ _ _ hl k => lv_aload_n hC.1 hC.2.1 d_L_law_134 rfl (lv_at hl 0 rfl) k) ?_
        refine x_go (pc' := 136) (st' := [.int x3, .ref b, .int x1011, .int x1010, .ref a1]) (fun hC _ _ _ _ _ _ hl k => lv_iload_n hC.1 hC.2.1 d_L_law_135 rfl (lv_at hl 3 rfl) k) ?_
        refine x_go (pc' := 137) (st' := [.int (3 : Int32), .int x3, .ref b, .int x1011, .int x1010, .ref a1]) (fun hC _ _ _ _ _ _ hl k => lv_iconst (v := 3) hC.1 hC.2.1 d_L_law_136 (by decide) k) ?_
        refine x_go (pc' := 138) (st' := [.int (x3 + (3 : Int32)), .ref b, .int x1011, .int x1010, .ref a1]) (fun hC _ _ _ _ _ _ hl k => lv_iadd hC.1 hC.2.1 d_L_law_137 k) ?_
        refine x_sld hX hb (i := (x3 + (3 : Int32))) d_L_law_138 (fun x1012 => ?_)
        refine x_go (pc' := 140) (st' := [.ref b, .int x1012, .int x1011, .int x1010, .ref a1]) (fun hC _ _ _ _ _ _ hl k => lv_aload_n hC.1 hC.2.1 d_L_law_139 rfl (lv_at hl 0 rfl) k) ?_
        refine x_go (pc' := 141) (st' := [.int x3, .ref b, .int x1012, .int x1011, .int x1010, .ref a1]) (fun hC _ _ _ _ _ _ hl k => lv_iload_n hC.1 hC.2.1 d_L_law_140 rfl (lv_at hl 3 rfl) k) ?_
        refine x_go (pc' := 142) (st' := [.int (4 : Int32), .int x3, .ref b, .int x1012, .int x1011, .int x1010, .ref a1]) (fun hC _ _ _ _ _ _ hl k => lv_iconst (v := 4) hC.1 hC.2.1 d_L_law_141 (by decide) k) ?_
        refine x_go (pc' := 143) (st' := [.int (x3 + (4 : Int32)), .ref b, .int x1012, .int x1011, .int x1010, .ref a1]) (fun hC _ _ _ _ _ _ hl k => lv_iadd hC.1 hC.2.1 d_L_law_142 k) ?_
        refine x_sld hX hb (i := (x3 + (4 : Int32))) d_L_law_143 (fun x1013 => ?_)
        refine x_go (pc' := 145) (st' := [.long (Int32.toInt64 x1013), .int x1012, .int x1011, .int x1010, .ref a1]) (fun hC _ _ _ _ _ _ hl k => lv_i2l hC.1 hC.2.1 d_L_law_144 rfl k) ?_
        refine x_go (pc' := 147) (st' := [.int (32 : Int32), .long (Int32.toInt64 x1013), .int x1012, .int x1011, .int x1010, .ref a1]) (fun hC _ _ _ _ _ _ hl k => lv_bipush (v := 32) hC.1 hC.2.1 d_L_law_145 (by decide) k) ?_
        refine x_go (pc' := 148) (st' := [.long ((Int32.toInt64 x1013) <<< (Int32.toInt64 (32 : Int32) &&& 63)), .int x1012, .int x1011, .int x1010, .ref a1]) (fun hC _ _ _ _ _ _ hl k => lv_lshl hC.1 hC.2.1 d_L_law_147 rfl k) ?_
        refine x_go (pc' := 149) (st' := [.ref b, .long ((Int32.toInt64 x1013) <<< (Int32.toInt64 (32 : Int32) &&& 63)), .int x1012, .int x1011, .int x1010, .ref a1]) (fun hC _ _ _ _ _ _ hl k => lv_aload_n hC.1 hC.2.1 d_L_law_148 rfl (lv_at hl 0 rfl) k) ?_
        refine x_go (pc' := 150) (st' := [.int x3, .ref b, .long ((Int32.toInt64 x1013) <<< (Int32.toInt64 (32 : Int32) &&& 63)), .int x1012, .int x1011, .int x1010, .ref a1]) (fun hC _ _ _ _ _ _ hl k => lv_iload_n hC.1 hC.2.1 d_L_law_149 rfl (lv_at hl 3 rfl) k) ?_
        refine x_go (pc' := 151) (st' := [.int (5 : Int32), .int x3, .ref b, .long ((Int32.toInt64 x1013) <<< (Int32.toInt64 (32 : Int32) &&& 63)), .int x1012, .int x1011, .int x1010, .ref a1]) (fun hC _ _ _ _ _ _ hl k => lv_iconst (v := 5) hC.1 hC.2.1 d_L_law_150 (by decide) k) ?_
        refine x_go (pc' := 152) (st' := [.int (x3 + (5 : Int32)), .ref b, .long ((Int32.toInt64 x1013) <<< (Int32.toInt64 (32 : Int32) &&& 63)), .int x1012, .int x1011, .int x1010, .ref a1]) (fun hC _ _ _ _ _ _ hl k => lv_iadd hC.1 hC.2.1 d_L_law_151 k) ?_
        refine x_sld hX hb (i := (x3 + (5 : Int32))) d_L_law_152 (fun x1014 => ?_)
        refine x_go (pc' := 154) (st' := [.long (Int32.toInt64 x1014), .long ((Int32.toInt64 x1013) <<< (Int32.toInt64 (32 : Int32) &&& 63)), .int x1012, .int x1011, .int x1010, .ref a1]) (fun hC _ _ _ _ _ _ hl k => lv_i2l hC.1 hC.2.1 d_L_law_153 rfl k) ?_
        refine x_go (pc' := 157) (st' := [.long (4294967295 : Int64), .long (Int32.toInt64 x1014), .long ((Int32.toInt64 x1013) <<< (Int32.toInt64 (32 : Int32) &&& 63)), .int x1012, .int x1011, .int x1010, .ref a1]) (fun hC _ _ _ _ _ _ hl k => lv_ldc2 hC.1 hC.2.1 hC.2.2.2.1 (hC.2.2.2.2.1 _ tw_489) d_L_law_154 k) ?_
        refine x_go (pc' := 158) (st' := [.long ((Int32.toInt64 x1014) &&& (4294967295 : Int64)), .long ((Int32.toInt64 x1013) <<< (Int32.toInt64 (32 : Int32) &&& 63)), .int x1012, .int x1011, .int x1010, .ref a1]) (fun hC _ _ _ _ _ _ hl k => lv_land hC.1 hC.2.1 d_L_law_157 k) ?_
        refine x_go (pc' := 159) (st' := [.long (((Int32.toInt64 x1013) <<< (Int32.toInt64 (32 : Int32) &&& 63)) ||| ((Int32.toInt64 x1014) &&& (4294967295 : Int64))), .int x1012, .int x1011, .int x1010, .ref a1]) (fun hC _ _ _ _ _ _ hl k => lv_lor hC.1 hC.2.1 d_L_law_158 k) ?_
        refine x_go (pc' := 160) (st' := [.ref b, .long (((Int32.toInt64 x1013) <<< (Int32.toInt64 (32 : Int32) &&& 63)) ||| ((Int32.toInt64 x1014) &&& (4294967295 : Int64))), .int x1012, .int x1011, .int x1010, .ref a1]) (fun hC _ _ _ _ _ _ hl k => lv_aload_n hC.1 hC.2.1 d_L_law_159 rfl (lv_at hl 0 rfl) k) ?_
        refine x_go (pc' := 161) (st' := [.int x3, .ref b, .long (((Int32.toInt64 x1013) <<< (Int32.toInt64 (32 : Int32) &&& 63)) ||| ((Int32.toInt64 x1014) &&& (4294967295 : Int64))), .int x1012, .int x1011, .int x1010, .ref a1]) (fun hC _ _ _ _ _ _ hl k => lv_iload_n hC.1 hC.2.1 d_L_law_160 rfl (lv_at hl 3 rfl) k) ?_
        refine x_go (pc' := 163) (st' := [.int (6 : Int32), .int x3, .ref b, .long (((Int32.toInt64 x1013) <<< (Int32.toInt64 (32 : Int32) &&& 63)) ||| ((Int32.toInt64 x1014) &&& (4294967295 : Int64))), .int x1012, .int x1011, .int x1010, .ref a1]) (fun hC _ _ _ _ _ _ hl k => lv_bipush (v := 6) hC.1 hC.2.1 d_L_law_161 (by decide) k) ?_
        refine x_go (pc' := 164) (st' := [.int (x3 + (6 : Int32)), .ref b, .long (((Int32.toInt64 x1013) <<< (Int32.toInt64 (32 : Int32) &&& 63)) ||| ((Int32.toInt64 x1014) &&& (4294967295 : Int64))), .int x1012, .int x1011, .int x1010, .ref a1]) (fun hC _ _ _ _ _ _ hl k => lv_iadd hC.1 hC.2.1 d_L_law_163 k) ?_
        refine x_sld hX hb (i := (x3 + (6 : Int32))) d_L_law_164 (fun x1015 => ?_)
        refine x_go (pc' := 166) (st' := [.long (Int32.toInt64 x1015), .long (((Int32.toInt64 x1013) <<< (Int32.toInt64 (32 : Int32) &&& 63)) ||| ((Int32.toInt64 x1014) &&& (4294967295 : Int64))), .int x1012, .int x1011, .int x1010, .ref a1]) (fun hC _ _ _ _ _ _ hl k => lv_i2l hC.1 hC.2.1 d_L_law_165 rfl k) ?_
        refine x_go (pc' := 168) (st' := [.int (32 : Int32), .long (Int32.toInt64 x1015), .long (((Int32.toInt64 x1013) <<< (Int32.toInt64 (32 : Int32) &&& 63)) ||| ((Int32.toInt64 x1014) &&& (4294967295 : Int64))), .int x1012, .int x1011, .int x1010, .ref a1]) (fun hC _ _ _ _ _ _ hl k => lv_bipush (v := 32) hC.1 hC.2.1 d_L_law_166 (by decide) k) ?_
        refine x_go (pc' := 169) (st' := [.long ((Int32.toInt64 x1015) <<< (Int32.toInt64 (32 : Int32) &&& 63)), .long (((Int32.toInt64 x1013) <<< (Int32.toInt64 (32 : Int32) &&& 63)) ||| ((Int32.toInt64 x1014) &&& (4294967295 : Int64))), .int x1012, .int x1011, .int x1010, .ref a1]) (fun hC _ _ _ _ _ _ hl k => lv_lshl hC.1 hC.2.1 d_L_law_168 rfl k) ?_
        refine x_go (pc' := 170) (st' := [.ref b, .long ((Int32.toInt64 x1015) <<< (Int32.toInt64 (32 : Int32) &&& 63)), .long (((Int32.toInt64 x1013) <<< (Int32.toInt64 (32 : Int32) &&& 63)) ||| ((Int32.toInt64 x1014) &&& (4294967295 : Int64))), .int x1012, .int x1011, .int x1010, .ref a1]) (fun hC _ _ _ _ _ _ hl k => lv_aload_n hC.1 hC.2.1 d_L_law_169 rfl (lv_at hl 0 rfl) k) ?_
        refine x_go (pc' := 171) (st' := [.int x3, .ref b, .long ((Int32.toInt64 x1015) <<< (Int32.toInt64 (32 : Int32) &&& 63)), .long (((Int32.toInt64 x1013) <<< (Int32.toInt64 (32 : Int32) &&& 63)) ||| ((Int32.toInt64 x1014) &&& (4294967295 : Int64))), .int x1012, .int x1011, .int x1010, .ref a1]) (fun hC _ _ _ _ _ _ hl k => lv_iload_n hC.1 hC.2.1 d_L_law_170 rfl (lv_at hl 3 rfl) k) ?_
        refine x_go (pc' := 173) (st' := [.int (7 : Int32), .int x3, .ref b, .long ((Int32.toInt64 x1015) <<< (Int32.toInt64 (32 : Int32) &&& 63)), .long (((Int32.toInt64 x1013) <<< (Int32.toInt64 (32 : Int32) &&& 63)) ||| ((Int32.toInt64 x1014) &&& (4294967295 : Int64))), .int x1012, .int x1011, .int x1010, .ref a1]) (fun hC _ _ _ _ _ _ hl k => lv_bipush (v := 7) hC.1 hC.2.1 d_L_law_171 (by decide) k) ?_
        refine x_go (pc' := 174) (st' := [.int (x3 + (7 : Int32)), .ref b, .long ((Int32.toInt64 x1015) <<< (Int32.toInt64 (32 : Int32) &&& 63)), .long (((Int32.toInt64 x1013) <<< (Int32.toInt64 (32 : Int32) &&& 63)) ||| ((Int32.toInt64 x1014) &&& (4294967295 : Int64))), .int x1012, .int x1011, .int x1010, .ref a1]) (fun hC _ _ _ _ _ _ hl k => lv_iadd hC.1 hC.2.1 d_L_law_173 k) ?_
        refine x_sld hX hb (i := (x3 + (7 : Int32))) d_L_law_174 (fun x1016 => ?_)
        refine x_go (pc' := 176) (st' := [.long (Int32.toInt64 x1016), .long ((Int32.toInt64 x1015) <<< (Int32.toInt64 (32 : Int32) &&& 63)), .long (((Int32.toInt64 x1013) <<< (Int32.toInt64 (32 : Int32) &&& 63)) ||| ((Int32.toInt64 x1014) &&& (4294967295 : Int64))), .int x1012, .int x1011, .int x1010, .ref a1]) (fun hC _ _ _ _ _ _ hl k => lv_i2l hC.1 hC.2.1 d_L_law_175 rfl k) ?_
        refine x_go (pc' := 179) (st' := [.long (4294967295 : Int64), .long (Int32.toInt64 x1016), .long ((Int32.toInt64 x1015) <<< (Int32.toInt64 (32 : Int32) &&& 63)), .long (((Int32.toInt64 x1013) <<< (Int32.toInt64 (32 : Int32) &&& 63)) ||| ((Int32.toInt64 x1014) &&& (4294967295 : Int64))), .int x1012, .int x1011, .int x1010, .ref a1]) (fun hC _ _ _ _ _ _ hl k => lv_ldc2 hC.1 hC.2.1 hC.2.2.2.1 (hC.2.2.2.2.1 _ tw_489) d_L_law_176 k) ?_
        refine x_go (pc' := 180) (st' := [.long ((Int32.toInt64 x1016) &&& (4294967295 : Int64)), .long ((Int32.toInt64 x1015) <<< (Int32.toInt64 (32 : Int32) &&& 63)), .long (((Int32.toInt64 x1013) <<< (Int32.toInt64 (32 : Int32) &&& 63)) ||| ((Int32.toInt64 x1014) &&& (4294967295 : Int64))), .int x1012, .int x1011, .int x1010, .ref a1]) (fun hC _ _ _ _ _ _ hl k => lv_land hC.1 hC.2.1 d_L_law_179 k) ?_
        refine x_go (pc' := 181) (st' := [.long (((Int32.toInt64 x1015) <<< (Int32.toInt64 (32 : Int32) &&& 63)) ||| ((Int32.toInt64 x1016) &&& (4294967295 : Int64))), .long (((Int32.toInt64 x1013) <<< (Int32.toInt64 (32 : Int32) &&& 63)) ||| ((Int32.toInt64 x1014) &&& (4294967295 : Int64))), .int x1012, .int x1011, .int x1010, .ref a1]) (fun hC _ _ _ _ _ _ hl k => lv_lor hC.1 hC.2.1 d_L_law_180 k) ?_
        refine x_go (pc' := 182) (st' := [.ref b, .long (((Int32.toInt64 x1015) <<< (Int32.toInt64 (32 : Int32) &&& 63)) ||| ((Int32.toInt64 x1016) &&& (4294967295 : Int64))), .long (((Int32.toInt64 x1013) <<< (Int32.toInt64 (32 : Int32) &&& 63)) ||| ((Int32.toInt64 x1014) &&& (4294967295 : Int64))), .int x1012, .int x1011, .int x1010, .ref a1]) (fun hC _ _ _ _ _ _ hl k => lv_aload_n hC.1 hC.2.1 d_L_law_181 rfl (lv_at hl 0 rfl) k) ?_
        refine x_go (pc' := 183) (st' := [.int x3, .ref b, .long (((Int32.toInt64 x1015) <<< (Int32.toInt64 (32 : Int32) &&& 63)) ||| ((Int32.toInt64 x1016) &&& (4294967295 : Int64))), .long (((Int32.toInt64 x1013) <<< (Int32.toInt64 (32 : Int32) &&& 63)) ||| ((Int32.toInt64 x1014) &&& (4294967295 : Int64))), .int x1012, .int x1011, .int x1010, .ref a1]) (fun hC _ _ _ _ _ _ hl k => lv_iload_n hC.1 hC.2.1 d_L_law_182 rfl (lv_at hl 3 rfl) k) ?_
        refine x_go (pc' := 185) (st' := [.int (8 : Int32), .int x3, .ref b, .long (((Int32.toInt64 x1015) <<< (Int32.toInt64 (32 : Int32) &&& 63)) ||| ((Int32.toInt64 x1016) &&& (4294967295 : Int64))), .long (((Int32.toInt64 x1013) <<< (Int32.toInt64 (32 : Int32) &&& 63)) ||| ((Int32.toInt64 x1014) &&& (4294967295 : Int64))), .int x1012, .int x1011, .int x1010, .ref a1]) (fun hC _ _ _ _ _ _ hl k => lv_bipush (v := 8) hC.1 hC.2.1 d_L_law_183 (by decide) k) ?_
        refine x_go (pc' := 186) (st' := [.int (x3 + (8 : Int32)), .ref b, .long (((Int32.toInt64 x1015) <<< (Int32.toInt64 (32 : Int32) &&& 63)) ||| ((Int32.toInt64 x1016) &&& (4294967295 : Int64))), .long (((Int32.toInt64 x1013) <<< (Int32.toInt64 (32 : Int32) &&& 63)) ||| ((Int32.toInt64 x1014) &&& (4294967295 : Int64))), .int x1012, .int x1011, .int x1010, .ref a1]) (fun hC _ _ _ _ _ _ hl k => lv_iadd hC.1 hC.2.1 d_L_law_185 k) ?_
        refine x_sld hX hb (i := (x3 + (8 : Int32))) d_L_law_186 (fun x1017 => ?_)
        refine x_recv (ci := 3) (r := (some a1)) (fun b1020 _ eb1020 gb1020 => ?_)
        refine x_callI (rest := []) (c_D_read l B b1020 x1010 x1011 x1012 (((Int32.toInt64 x1013) <<< (Int32.toInt64 (32 : Int32) &&& 63)) ||| ((Int32.toInt64 x1014) &&& (4294967295 : Int64))) (((Int32.toInt64 x1015) <<< (Int32.toInt64 (32 : Int32) &&& 63)) ||| ((Int32.toInt64 x1016) &&& (4294967295 : Int64))) x1017 h) (fun hC => fun e1 e2 e3 e4 hM => fun hR hsz hc hs => run_V (n := 6) hC lw_good rfl rfl tw_102 tw_103 tw_104 tw_1 tw_105 (by decide) d_L_law_187 gb1020 (by rw [e1]; exact Nat.le_of_ble_eq_true rfl) (by rw [e2]; exact Nat.le_of_ble_eq_true rfl) e3 e4 hM hR hsz hc hs rfl (by cases eb1020; rfl) (Nat.le_of_ble_eq_true rfl)) (fun x1019 h1018 => ?_)
        refine x_go (pc' := 191) (st' := []) (fun hC _ _ _ _ _ _ hl k => lv_pop hC.1 hC.2.1 d_L_law_190 rfl k) ?_
        refine x_go (pc' := 192) (st' := [.ref a2]) (fun hC _ _ _ _ _ _ hl k => lv_aload_n hC.1 hC.2.1 d_L_law_191 rfl (lv_at hl 2 rfl) k) ?_
        refine x_go (pc' := 193) (st' := [.ref b, .ref a2]) (fun hC _ _ _ _ _ _ hl k => lv_aload_n hC.1 hC.2.1 d_L_law_192 rfl (lv_at hl 0 rfl) k) ?_
        refine x_go (pc' := 194) (st' := [.int x3, .ref b, .ref a2]) (fun hC _ _ _ _ _ _ hl k => lv_iload_n hC.1 hC.2.1 d_L_law_193 rfl (lv_at hl 3 rfl) k) ?_
        refine x_go (pc' := 195) (st' := [.int (1 : Int32), .int x3, .ref b, .ref a2]) (fun hC _ _ _ _ _ _ hl k => lv_iconst (v := 1) hC.1 hC.2.1 d_L_law_194 (by decide) k) ?_
        refine x_go (pc' := 196) (st' := [.int (x3 + (1 : Int32)), .ref b, .ref a2]) (fun hC _ _ _ _ _ _ hl k => lv_iadd hC.1 hC.2.1 d_L_law_195 k) ?_
        refine x_sld hX hb (i := (x3 + (1 : Int32))) d_L_law_196 (fun x1021 => ?_)
        refine x_go (pc' := 198) (st' := [.ref b, .int x1021, .ref a2]) (fun hC _ _ _ _ _ _ hl k => lv_aload_n hC.1 hC.2.1 d_L_law_197 rfl (lv_at hl 0 rfl) k) ?_
        refine x_go (pc' := 199) (st' := [.int x3, .ref b, .int x1021, .ref a2]) (fun hC _ _ _ _ _ _ hl k => lv_iload_n hC.1 hC.2.1 d_L_law_198 rfl (lv_at hl 3 rfl) k) ?_
        refine x_go (pc' := 200) (st' := [.int (2 : Int32), .int x3, .ref b, .int x1021, .ref a2]) (fun hC _ _ _ _ _ _ hl k => lv_iconst (v := 2) hC.1 hC.2.1 d_L_law_199 (by decide) k) ?_
        refine x_go (pc' := 201) (st' := [.int (x3 + (2 : Int32)), .ref b, .int x1021, .ref a2]) (fun hC _ _ _ _ _ _ hl k => lv_iadd hC.1 hC.2.1 d_L_law_200 k) ?_
        refine x_sld hX hb (i := (x3 + (2 : Int32))) d_L_law_201 (fun x1022 => ?_)
        refine x_go (pc' := 203) (st' := [.ref b, .int x1022, .int x1021, .ref a2]) (fun hC _ _ _ _ _ _ hl k => lv_aload_n hC.1 hC.2.1 d_L_law_202 rfl (lv_at hl 0 rfl) k) ?_
        refine x_go (pc' := 204) (st' := [.int x3, .ref b, .int x1022, .int x1021, .ref a2]) (fun hC _ _ _ _ _ _ hl k => lv_iload_n hC.1 hC.2.1 d_L_law_203 rfl (lv_at hl 3 rfl) k) ?_
        refine x_go (pc' := 205) (st' := [.int (3 : Int32), .int x3, .ref b, .int x1022, .int x1021, .ref a2]) (fun hC _ _ _ _ _ _ hl k => lv_iconst (v := 3) hC.1 hC.2.1 d_L_law_204 (by decide) k) ?_
        refine x_go (pc' := 206) (st' := [.int (x3 + (3 : Int32)), .ref b, .int x1022, .int x1021, .ref a2]) (fun hC _ _ _ _ _ _ hl k => lv_iadd hC.1 hC.2.1 d_L_law_205 k) ?_
        refine x_sld hX hb (i := (x3 + (3 : Int32))) d_L_law_206 (fun x1023 => ?_)
        refine x_go (pc' := 208) (st' := [.ref b, .int x1023, .int x1022, .int x1021, .ref a2]) (fun hC _ _ _ _ _ _ hl k => lv_aload_n hC.1 hC.2.1 d_L_law_207 rfl (lv_at hl 0 rfl) k) ?_
        refine x_go (pc' := 209) (st' := [.int x3, .ref b, .int x1023, .int x1022, .int x1021, .ref a2]) (fun hC _ _ _ _ _ _ hl k => lv_iload_n hC.1 hC.2.1 d_L_law_208 rfl (lv_at hl 3 rfl) k) ?_
        refine x_go (pc' := 210) (st' := [.int (4 : Int32), .int x3, .ref b, .int x1023, .int x1022, .int x1021, .ref a2]) (fun hC _ _ _ _ _ _ hl k => lv_iconst (v := 4) hC.1 hC.2.1 d_L_law_209 (by decide) k) ?_
        refine x_go (pc' := 211) (st' := [.int (x3 + (4 : Int32)), .ref b, .int x1023, .int x1022, .int x1021, .ref a2]) (fun hC _ _ _ _ _ _ hl k => lv_iadd hC.1 hC.2.1 d_L_law_210 k) ?_
        refine x_sld hX hb (i := (x3 + (4 : Int32))) d_L_law_211 (fun x1024 => ?_)
        refine x_go (pc' := 213) (st' := [.long (Int32.toInt64 x1024), .int x1023, .int x1022, .int x1021, .ref a2]) (fun hC _ _ _ _ _ _ hl k => lv_i2l hC.1 hC.2.1 d_L_law_212 rfl k) ?_
        refine x_go (pc' := 215) (st' := [.int (32 : Int32), .long (Int32.toInt64 x1024), .int x1023, .int x1022, .int x1021, .ref a2]) (fun hC _ _ _ _ _ _ hl k => lv_bipush (v := 32) hC.1 hC.2.1 d_L_law_213 (by decide) k) ?_
        refine x_go (pc' := 216) (st' := [.long ((Int32.toInt64 x1024) <<< (Int32.toInt64 (32 : Int32) &&& 63)), .int x1023, .int x1022, .int x1021, .ref a2]) (fun hC _ _ _ _ _ _ hl k => lv_lshl hC.1 hC.2.1 d_L_law_215 rfl k) ?_
        refine x_go (pc' := 217) (st' := [.ref b, .long ((Int32.toInt64 x1024) <<< (Int32.toInt64 (32 : Int32) &&& 63)), .int x1023, .int x1022, .int x1021, .ref a2]) (fun hC _ _ _ _ _ _ hl k => lv_aload_n hC.1 hC.2.1 d_L_law_216 rfl (lv_at hl 0 rfl) k) ?_
        refine x_go (pc' := 218) (st' := [.int x3, .ref b, .long ((Int32.toInt64 x1024) <<< (Int32.toInt64 (32 : Int32) &&& 63)), .int x1023, .int x1022, .int x1021, .ref a2]) (fun hC _ _ _ _ _ _ hl k => lv_iload_n hC.1 hC.2.1 d_L_law_217 rfl (lv_at hl 3 rfl) k) ?_
        refine x_go (pc' := 219) (st' := [.int (5 : Int32), .int x3, .ref b, .long ((Int32.toInt64 x1024) <<< (Int32.toInt64 (32 : Int32) &&& 63)), .int x1023, .int x1022, .int x1021, .ref a2]) (fun hC _ _ _ _ _ _ hl k => lv_iconst (v := 5) hC.1 hC.2.1 d_L_law_218 (by decide) k) ?_
        refine x_go (pc' := 220) (st' := [.int (x3 + (5 : Int32)), .ref b, .long ((Int32.toInt64 x1024) <<< (Int32.toInt64 (32 : Int32) &&& 63)), .int x1023, .int x1022, .int x1021, .ref a2]) (fun hC _ _ _ _ _ _ hl k => lv_iadd hC.1 hC.2.1 d_L_law_219 k) ?_
        refine x_sld hX hb (i := (x3 + (5 : Int32))) d_L_law_220 (fun x1025 => ?_)
        refine x_go (pc' := 222) (st' := [.long (Int32.toInt64 x1025), .long ((Int32.toInt64 x1024) <<< (Int32.toInt64 (32 : Int32) &&& 63)), .int x1023, .int x1022, .int x1021, .ref a2]) (fun hC _ _ _ _ _ _ hl k => lv_i2l hC.1 hC.2.1 d_L_law_221 rfl k) ?_
        refine x_go (pc' := 225) (st' := [.long (4294967295 : Int64), .long (Int32.toInt64 x1025), .long ((Int32.toInt64 x1024) <<< (Int32.toInt64 (32 : Int32) &&& 63)), .int x1023, .int x1022, .int x1021, .ref a2]) (fun hC _ _ _ _ _ _ hl k => lv_ldc2 hC.1 hC.2.1 hC.2.2.2.1 (hC.2.2.2.2.1 _ tw_489) d_L_law_222 k) ?_
        refine x_go (pc' := 226) (st' := [.long ((Int32.toInt64 x1025) &&& (4294967295 : Int64)), .long ((Int32.toInt64 x1024) <<< (Int32.toInt64 (32 : Int32) &&& 63)), .int x1023, .int x1022, .int x1021, .ref a2]) (fun hC _ _ _ _ _ _ hl k => lv_land hC.1 hC.2.1 d_L_law_225 k) ?_
        refine x_go (pc' := 227) (st' := [.long (((Int32.toInt64 x1024) <<< (Int32.toInt64 (32 : Int32) &&& 63)) ||| ((Int32.toInt64 x1025) &&& (4294967295 : Int64))), .int x1023, .int x1022, .int x1021, .ref a2]) (fun hC _ _ _ _ _ _ hl k => lv_lor hC.1 hC.2.1 d_L_law_226 k) ?_
        refine x_go (pc' := 228) (st' := [.ref b, .long (((Int32.toInt64 x1024) <<< (Int32.toInt64 (32 : Int32) &&& 63)) ||| ((Int32.toInt64 x1025) &&& (4294967295 : Int64))), .int x1023, .int x1022, .int x1021, .ref a2]) (fun hC _ _ _ _ _ _ hl k => lv_aload_n hC.1 hC.2.1 d_L_law_227 rfl (lv_at hl 0 rfl) k) ?_
        refine x_go (pc' := 229) (st' := [.int x3, .ref b, .long (((Int32.toInt64 x1024) <<< (Int32.toInt64 (32 : Int32) &&& 63)) ||| ((Int32.toInt64 x1025) &&& (4294967295 : Int64))), .int x1023, .int x1022, .int x1021, .ref a2]) (fun hC _ _ _ _ _ _ hl k => lv_iload_n hC.1 hC.2.1 d_L_law_228 rfl (lv_at hl 3 rfl) k) ?_
        refine x_go (pc' := 231) (st' := [.int (6 : Int32), .int x3, .ref b, .long (((Int32.toInt64 x1024) <<< (Int32.toInt64 (32 : Int32) &&& 63)) ||| ((Int32.toInt64 x1025) &&& (4294967295 : Int64))), .int x1023, .int x1022, .int x1021, .ref a2]) (fun hC _ _ _ _ _ _ hl k => lv_bipush (v := 6) hC.1 hC.2.1 d_L_law_229 (by decide) k) ?_
        refine x_go (pc' := 232) (st' := [.int (x3 + (6 : Int32)), .ref b, .long (((Int32.toInt64 x1024) <<< (Int32.toInt64 (32 : Int32) &&& 63)) ||| ((Int32.toInt64 x1025) &&& (4294967295 : Int64))), .int x1023, .int x1022, .int x1021, .ref a2]) (fun hC _ _ _ _ _ _ hl k => lv_iadd hC.1 hC.2.1 d_L_law_231 k) ?_
        refine x_sld hX hb (i := (x3 + (6 : Int32))) d_L_law_232 (fun x1026 => ?_)
        refine x_go (pc' := 234) (st' := [.long (Int32.toInt64 x1026), .long (((Int32.toInt64 x1024) <<< (Int32.toInt64 (32 : Int32) &&& 63)) ||| ((Int32.toInt64 x1025) &&& (4294967295 : Int64))), .int x1023, .int x1022, .int x1021, .ref a2]) (fun hC _ _ _ _ _ _ hl k => lv_i2l hC.1 hC.2.1 d_L_law_233 rfl k) ?_
        refine x_go (pc' := 236) (st' := [.int (32 : Int32), .long (Int32.toInt64 x1026), .long (((Int32.toInt64 x1024) <<< (Int32.toInt64 (32 : Int32) &&& 63)) ||| ((Int32.toInt64 x1025) &&& (4294967295 : Int64))), .int x1023, .int x1022, .int x1021, .ref a2]) (fun hC _ _ _ _ _ _ hl k => lv_bipush (v := 32) hC.1 hC.2.1 d_L_law_234 (by decide) k) ?_
        refine x_go (pc' := 237) (st' := [.long ((Int32.toInt64 x1026) <<< (Int32.toInt64 (32 : Int32) &&& 63)), .long (((Int32.toInt64 x1024) <<< (Int32.toInt64 (32 : Int32) &&& 63)) ||| ((Int32.toInt64 x1025) &&& (4294967295 : Int64))), .int x1023, .int x1022, .int x1021, .ref a2]) (fun hC _ _ _ _ _ _ hl k => lv_lshl hC.1 hC.2.1 d_L_law_236 rfl k) ?_
        refine x_go (pc' := 238) (st' := [.ref b, .long ((Int32.toInt64 x1026) <<< (Int32.toInt64 (32 : Int32) &&& 63)), .long (((Int32.toInt64 x1024) <<< (Int32.toInt64 (32 : Int32) &&& 63)) ||| ((Int32.toInt64 x1025) &&& (4294967295 : Int64))), .int x1023, .int x1022, .int x1021, .ref a2]) (fun hC _ _ _ _ _ _ hl k => lv_aload_n hC.1 hC.2.1 d_L_law_237 rfl (lv_at hl 0 rfl) k) ?_
        refine x_go (pc' := 239) (st' := [.int x3, .ref b, .long ((Int32.toInt64 x1026) <<< (Int32.toInt64 (32 : Int32) &&& 63)), .long (((Int32.toInt64 x1024) <<< (Int32.toInt64 (32 : Int32) &&& 63)) ||| ((Int32.toInt64 x1025) &&& (4294967295 : Int64))), .int x1023, .int x1022, .int x1021, .ref a2]) (fun hC _ _ _ _ _ _ hl k => lv_iload_n hC.1 hC.2.1 d_L_law_238 rfl (lv_at hl 3 rfl) k) ?_
        refine x_go (pc' := 241) (st' := [.int (7 : Int32), .int x3, .ref b, .long ((Int32.toInt64 x1026) <<< (Int32.toInt64 (32 : Int32) &&& 63)), .long (((Int32.toInt64 x1024) <<< (Int32.toInt64 (32 : Int32) &&& 63)) ||| ((Int32.toInt64 x1025) &&& (4294967295 : Int64))), .int x1023, .int x1022, .int x1021, .ref a2]) (fun hC _ _ _ _ _ _ hl k => lv_bipush (v := 7) hC.1 hC.2.1 d_L_law_239 (by decide) k) ?_
        refine x_go (pc' := 242) (st' := [.int (x3 + (7 : Int32)), .ref b, .long ((Int32.toInt64 x1026) <<< (Int32.toInt64 (32 : Int32) &&& 63)), .long (((Int32.toInt64 x1024) <<< (Int32.toInt64 (32 : Int32) &&& 63)) ||| ((Int32.toInt64 x1025) &&& (4294967295 : Int64))), .int x1023, .int x1022, .int x1021, .ref a2]) (fun hC _ _ _ _ _ _ hl k => lv_iadd hC.1 hC.2.1 d_L_law_241 k) ?_
        refine x_sld hX hb (i := (x3 + (7 : Int32))) d_L_law_242 (fun x1027 => ?_)
        refine x_go (pc' := 244) (st' := [.long (Int32.toInt64 x1027), .long ((Int32.toInt64 x1026) <<< (Int32.toInt64 (32 : Int32) &&& 63)), .long (((Int32.toInt64 x1024) <<< (Int32.toInt64 (32 : Int32) &&& 63)) ||| ((Int32.toInt64 x1025) &&& (4294967295 : Int64))), .int x1023, .int x1022, .int x1021, .ref a2]) (fun hC _ _ _ _ _ _ hl k => lv_i2l hC.1 hC.2.1 d_L_law_243 rfl k) ?_
        refine x_go (pc' := 247) (st' := [.long (4294967295 : Int64), .long (Int32.toInt64 x1027), .long ((Int32.toInt64 x1026) <<< (Int32.toInt64 (32 : Int32) &&& 63)), .long (((Int32.toInt64 x1024) <<< (Int32.toInt64 (32 : Int32) &&& 63)) ||| ((Int32.toInt64 x1025) &&& (4294967295 : Int64))), .int x1023, .int x1022, .int x1021, .ref a2]) (fun hC _ _ _ _ _ _ hl k => lv_ldc2 hC.1 hC.2.1 hC.2.2.2.1 (hC.2.2.2.2.1 _ tw_489) d_L_law_244 k) ?_
        refine x_go (pc' := 248) (st' := [.long ((Int32.toInt64 x1027) &&& (4294967295 : Int64)), .long ((Int32.toInt64 x1026) <<< (Int32.toInt64 (32 : Int32) &&& 63)), .long (((Int32.toInt64 x1024) <<< (Int32.toInt64 (32 : Int32) &&& 63)) ||| ((Int32.toInt64 x1025) &&& (4294967295 : Int64))), .int x1023, .int x1022, .int x1021, .ref a2]) (fun hC _ _ _ _ _ _ hl k => lv_land hC.1 hC.2.1 d_L_law_247 k) ?_
        refine x_go (pc' := 249) (st' := [.long (((Int32.toInt64 x1026) <<< (Int32.toInt64 (32 : Int32) &&& 63)) ||| ((Int32.toInt64 x1027) &&& (4294967295 : Int64))), .long (((Int32.toInt64 x1024) <<< (Int32.toInt64 (32 : Int32) &&& 63)) ||| ((Int32.toInt64 x1025) &&& (4294967295 : Int64))), .int x1023, .int x1022, .int x1021, .ref a2]) (fun hC _ _ _ _ _ _ hl k => lv_lor hC.1 hC.2.1 d_L_law_248 k) ?_
        refine x_go (pc' := 250) (st' := [.ref b, .long (((Int32.toInt64 x1026) <<< (Int32.toInt64 (32 : Int32) &&& 63)) ||| ((Int32.toInt64 x1027) &&& (4294967295 : Int64))), .long (((Int32.toInt64 x1024) <<< (Int32.toInt64 (32 : Int32) &&& 63)) ||| ((Int32.toInt64 x1025) &&& (4294967295 : Int64))), .int x1023, .int x1022, .int x1021, .ref a2]) (fun hC _ _ _ _ _ _ hl k => lv_aload_n hC.1 hC.2.1 d_L_law_249 rfl (lv_at hl 0 rfl) k) ?_
        refine x_go (pc' := 251) (st' := [.int x3, .ref b, .long (((Int32.toInt64 x1026) <<< (Int32.toInt64 (32 : Int32) &&& 63)) ||| ((Int32.toInt64 x1027) &&& (4294967295 : Int64))), .long (((Int32.toInt64 x1024) <<< (Int32.toInt64 (32 : Int32) &&& 63)) ||| ((Int32.toInt64 x1025) &&& (4294967295 : Int64))), .int x1023, .int x1022, .int x1021, .ref a2]) (fun hC _ _ _ _ _ _ hl k => lv_iload_n hC.1 hC.2.1 d_L_law_250 rfl (lv_at hl 3 rfl) k) ?_
        refine x_go (pc' := 253) (st' := [.int (8 : Int32), .int x3, .ref b, .long (((Int32.toInt64 x1026) <<< (Int32.toInt64 (32 : Int32) &&& 63)) ||| ((Int32.toInt64 x1027) &&& (4294967295 : Int64))), .long (((Int32.toInt64 x1024) <<< (Int32.toInt64 (32 : Int32) &&& 63)) ||| ((Int32.toInt64 x1025) &&& (4294967295 : Int64))), .int x1023, .int x1022, .int x1021, .ref a2]) (fun hC _ _ _ _ _ _ hl k => lv_bipush (v := 8) hC.1 hC.2.1 d_L_law_251 (by decide) k) ?_
        refine x_go (pc' := 254) (st' := [.int (x3 + (8 : Int32)), .ref b, .long (((Int32.toInt64 x1026) <<< (Int32.toInt64 (32 : Int32) &&& 63)) ||| ((Int32.toInt64 x1027) &&& (4294967295 : Int64))), .long (((Int32.toInt64 x1024) <<< (Int32.toInt64 (32 : Int32) &&& 63)) ||| ((Int32.toInt64 x1025) &&& (4294967295 : Int64))), .int x1023, .int x1022, .int x1021, .ref a2]) (fun hC _ _ _ _ _ _ hl k => lv_iadd hC.1 hC.2.1 d_L_law_253 k) ?_
        refine x_sld hX hb (i := (x3 + (8 : Int32))) d_L_law_254 (fun x1028 => ?_)
        refine x_recv (ci := 4) (r := (some a2)) (fun b1031 _ eb1031 gb1031 => ?_)
        refine x_callI (rest := []) (c_M_read l B b1031 x1021 x1022 x1023 (((Int32.toInt64 x1024) <<< (Int32.toInt64 (32 : Int32) &&& 63)) ||| ((Int32.toInt64 x1025) &&& (4294967295 : Int64))) (((Int32.toInt64 x1026) <<< (Int32.toInt64 (32 : Int32) &&& 63)) ||| ((Int32.toInt64 x1027) &&& (4294967295 : Int64))) x1028 h1018) (fun hC => fun e1 e2 e3 e4 hM => fun hR hsz hc hs => run_V (n := 6) hC lw_good rfl rfl tw_389 tw_390 tw_391 tw_3 tw_392 (by decide) d_L_law_255 gb1031 (by rw [e1]; exact Nat.le_of_ble_eq_true rfl) (by rw [e2]; exact Nat.le_of_ble_eq_true rfl) e3 e4 hM hR hsz hc hs rfl (by cases eb1031; rfl) (Nat.le_of_ble_eq_true rfl)) (fun x1030 h1029 => ?_)
        refine x_go (pc' := 259) (st' := []) (fun hC _ _ _ _ _ _ hl k => lv_pop hC.1 hC.2.1 d_L_law_258 rfl k) ?_
        refine x_go (pc' := 573) (st' := []) (fun hC _ _ _ _ _ _ hl k => lv_goto (tgt := 573) hC.1 hC.2.1 d_L_law_259 (by decide) k) ?_
        refine x_lift (pc' := 576) (st' := []) (lv' := [(3, .int (x3 + (9))), (0, .ref b), (1, .ref a1), (2, .ref a2)]) (fun hC _ _ _ _ _ _ hl k => lv_iinc (v := (x3 + (9))) hC.1 hC.2.1 d_L_law_573 hl (k := 3) rfl rfl (by decide) rfl k) ?_
        refine x_go (pc' := 18) (st' := []) (fun hC _ _ _ _ _ _ hl k => lv_goto (tgt := 18) hC.1 hC.2.1 d_L_law_576 (by decide) k) ?_
        exact x_sub (lv' := [(0, .ref b), (1, .ref a1), (2, .ref a2), (3, .int (x3 + (9)))]) [1, 2, 3, 0] rfl (ih a1 a2 (x3 + (9)) h1029)
      refine x_split (P := (x1001 &&& (15 : Int32)) = 2) (fun ec => ?_) (fun ed2 => ?_)
      · refine x_go (pc' := 262) (st' := []) (fun hC _ _ _ _ _ _ hl k => lv_tableIn (tgt := 262) hC.1 hC.2.1 d_L_law_33 (by rw [ec]; decide) (by rw [ec]; decide) (by rw [ec]; rfl) (by decide) k) ?_
        refine x_go (pc' := 263) (st' := [.ref a1]) (fun hC _ _ _ _ _ _ hl k => lv_aload_n hC.1 hC.2.1 d_L_law_262 rfl (lv_at hl 1 rfl) k) ?_
        refine x_go (pc' := 264) (st' := [.ref b, .ref a1]) (fun hC _ _ _ _ _ _ hl k => lv_aload_n hC.1 hC.2.1 d_L_law_263 rfl (lv_at hl 0 rfl) k) ?_
        refine x_go (pc' := 265) (st' := [.int x3, .ref b, .ref a1]) (fun hC _ _ _ _ _ _ hl k => lv_iload_n hC.1 hC.2.1 d_L_law_264 rfl (lv_at hl 3 rfl) k) ?_
        refine x_go (pc' := 266) (st' := [.int (1 : Int32), .int x3, .ref b, .ref a1]) (fun hC _ _ _ _ _ _ hl k => lv_iconst (v := 1) hC.1 hC.2.1 d_L_law_265 (by decide) k) ?_
        refine x_go (pc' := 267) (st' := [.int (x3 + (1 : Int32)), .ref b, .ref a1]) (fun hC _ _ _ _ _ _ hl k => lv_iadd hC.1 hC.2.1 d_L_law_266 k) ?_
        refine x_sld hX hb (i := (x3 + (1 : Int32))) d_L_law_267 (fun x1032 => ?_)
        refine x_go (pc' := 269) (st' := [.ref b, .int x1032, .ref a1]) (fun hC _ _ _ _ _ _ hl k => lv_aload_n hC.1 hC.2.1 d_L_law_268 rfl (lv_at hl 0 rfl) k) ?_
        refine x_go (pc' := 270) (st' := [.int x3, .ref b, .int x1032, .ref a1]) (fun hC _ _ _ _ _ _ hl k => lv_iload_n hC.1 hC.2.1 d_L_law_269 rfl (lv_at hl 3 rfl) k) ?_
        refine x_go (pc' := 271) (st' := [.int (2 : Int32), .int x3, .ref b, .int x1032, .ref a1]) (fun hC _ _ _ _ _ _ hl k => lv_iconst (v := 2) hC.1 hC.2.1 d_L_law_270 (by decide) k) ?_
        refine x_go (pc' := 272) (st' := [.int (x3 + (2 : Int32)), .ref b, .int x1032, .ref a1]) (fun hC _ _ _ _ _ _ hl k => lv_iadd hC.1 hC.2.1 d_L_law_271 k) ?_
        refine x_sld hX hb (i := (x3 + (2 : Int32))) d_L_law_272 (fun x1033 => ?_)
        refine x_go (pc' := 274) (st' := [.long (Int32.toInt64 x1033), .int x1032, .ref a1]) (fun hC _ _ _ _ _ _ hl k => lv_i2l hC.1 hC.2.1 d_L_law_273 rfl k) ?_
        refine x_go (pc' := 276) (st' := [.int (32 : Int32), .long (Int32.toInt64 x1033), .int x1032, .ref a1]) (fun hC _ _ _ _ _ _ hl k => lv_bipush (v := 32) hC.1 hC.2.1 d_L_law_274 (by decide) k) ?_
        refine x_go (pc' := 277) (st' := [.long ((Int32.toInt64 x1033) <<< (Int32.toInt64 (32 : Int32) &&& 63)), .int x1032, .ref a1]) (fun hC _ _ _ _ _ _ hl k => lv_lshl hC.1 hC.2.1 d_L_law_276 rfl k) ?_
        refine x_go (pc' := 278) (st' := [.ref b, .long ((Int32.toInt64 x1033) <<< (Int32.toInt64 (32 : Int32) &&& 63)), .int x1032, .ref a1]) (fun hC _ _ _ _ _ _ hl k => lv_aload_n hC.1 hC.2.1 d_L_law_277 rfl (lv_at hl 0 rfl) k) ?_
        refine x_go (pc' := 279) (st' := [.int x3, .ref b, .long ((Int32.toInt64 x1033) <<< (Int32.toInt64 (32 : Int32) &&& 63)), .int x1032, .ref a1]) (fun hC _ _ _ _ _ _ hl k => lv_iload_n hC.1 hC.2.1 d_L_law_278 rfl (lv_at hl 3 rfl) k) ?_
        refine x_go (pc' := 280) (st' := [.int (3 : Int32), .int x3, .ref b, .long ((Int32.toInt64 x1033) <<< (Int32.toInt64 (32 : Int32) &&& 63)), .int x1032, .ref a1]) (fun hC _ _ _ _ _ _ hl k => lv_iconst (v := 3) hC.1 hC.2.1 d_L_law_279 (by decide) k) ?_
        refine x_go (pc' := 281) (st' := [.int (x3 + (3 : Int32)), .ref b, .long ((Int32.toInt64 x1033) <<< (Int32.toInt64 (32 : Int32) &&& 63)), .int x1032, .ref a1]) (fun hC _ _ _ _ _ _ hl k => lv_iadd hC.1 hC.2.1 d_L_law_280 k) ?_
        refine x_sld hX hb (i := (x3 + (3 : Int32))) d_L_law_281 (fun x1034 => ?_)
        refine x_go (pc' := 283) (st' := [.long (Int32.toInt64 x1034), .long ((Int32.toInt64 x1033) <<< (Int32.toInt64 (32 : Int32) &&& 63)), .int x1032, .ref a1]) (fun hC _ _ _ _ _ _ hl k => lv_i2l hC.1 hC.2.1 d_L_law_282 rfl k) ?_
        refine x_go (pc' := 286) (st' := [.long (4294967295 : Int64), .long (Int32.toInt64 x1034), .long ((Int32.toInt64 x1033) <<< (Int32.toInt64 (32 : Int32) &&& 63)), .int x1032, .ref a1]) (fun hC _ _ _ _ _ _ hl k => lv_ldc2 hC.1 hC.2.1 hC.2.2.2.1 (hC.2.2.2.2.1 _ tw_489) d_L_law_283 k) ?_
        refine x_go (pc' := 287) (st' := [.long ((Int32.toInt64 x1034) &&& (4294967295 : Int64)), .long ((Int32.toInt64 x1033) <<< (Int32.toInt64 (32 : Int32) &&& 63)), .int x1032, .ref a1]) (fun hC _ _ _ _ _ _ hl k => lv_land hC.1 hC.2.1 d_L_law_286 k) ?_
        refine x_go (pc' := 288) (st' := [.long (((Int32.toInt64 x1033) <<< (Int32.toInt64 (32 : Int32) &&& 63)) ||| ((Int32.toInt64 x1034) &&& (4294967295 : Int64))), .int x1032, .ref a1]) (fun hC _ _ _ _ _ _ hl k => lv_lor hC.1 hC.2.1 d_L_law_287 k) ?_
        refine x_recv (ci := 3) (r := (some a1)) (fun b1037 _ eb1037 gb1037 => ?_)
        refine x_callI (rest := []) (c_D_cell l B b1037 x1032 (((Int32.toInt64 x1033) <<< (Int32.toInt64 (32 : Int32) &&& 63)) ||| ((Int32.toInt64 x1034) &&& (4294967295 : Int64))) h) (fun hC => fun e1 e2 e3 e4 hM => fun hR hsz hc hs => run_V (n := 2) hC lw_good rfl rfl tw_164 tw_165 tw_166 tw_1 tw_167 (by decide) d_L_law_288 gb1037 (by rw [e1]; exact Nat.le_of_ble_eq_true rfl) (by rw [e2]; exact Nat.le_of_ble_eq_true rfl) e3 e4 hM hR hsz hc hs rfl (by cases eb1037; rfl) (Nat.le_of_ble_eq_true rfl)) (fun x1036 h1035 => ?_)
        refine x_go (pc' := 292) (st' := []) (fun hC _ _ _ _ _ _ hl k => lv_pop hC.1 hC.2.1 d_L_law_291 rfl k) ?_
        refine x_go (pc' := 293) (st' := [.ref a2]) (fun hC _ _ _ _ _ _ hl k => lv_aload_n hC.1 hC.2.1 d_L_law_292 rfl (lv_at hl 2 rfl) k) ?_
        refine x_go (pc' := 294) (st' := [.ref b, .ref a2]) (fun hC _ _ _ _ _ _ hl k => lv_aload_n hC.1 hC.2.1 d_L_law_293 rfl (lv_at hl 0 rfl) k) ?_
        refine x_go (pc' := 295) (st' := [.int x3, .ref b, .ref a2]) (fun hC _ _ _ _ _ _ hl k => lv_iload_n hC.1 hC.2.1 d_L_law_294 rfl (lv_at hl 3 rfl) k) ?_
        refine x_go (pc' := 296) (st' := [.int (1 : Int32), .int x3, .ref b, .ref a2]) (fun hC _ _ _ _ _ _ hl k => lv_iconst (v := 1) hC.1 hC.2.1 d_L_law_295 (by decide) k) ?_
        refine x_go (pc' := 297) (st' := [.int (x3 + (1 : Int32)), .ref b, .ref a2]) (fun hC _ _ _ _ _ _ hl k => lv_iadd hC.1 hC.2.1 d_L_law_296 k) ?_
        refine x_sld hX hb (i := (x3 + (1 : Int32))) d_L_law_297 (fun x1038 => ?_)
        refine x_go (pc' := 299) (st' := [.ref b, .int x1038, .ref a2]) (fun hC _ _ _ _ _ _ hl k => lv_aload_n hC.1 hC.2.1 d_L_law_298 rfl (lv_at hl 0 rfl) k) ?_
        refine x_go (pc' := 300) (st' := [.int x3, .ref b, .int x1038, .ref a2]) (fun hC _ _ _ _ _ _ hl k => lv_iload_n hC.1 hC.2.1 d_L_law_299 rfl (lv_at hl 3 rfl) k) ?_
        refine x_go (pc' := 301) (st' := [.int (2 : Int32), .int x3, .ref b, .int x1038, .ref a2]) (fun hC _ _ _ _ _ _ hl k => lv_iconst (v := 2) hC.1 hC.2.1 d_L_law_300 (by decide) k) ?_
        refine x_go (pc' := 302) (st' := [.int (x3 + (2 : Int32)), .ref b, .int x1038, .ref a2]) (fun hC _ _ _ _ _ _ hl k => lv_iadd hC.1 hC.2.1 d_L_law_301 k) ?_
        refine x_sld hX hb (i := (x3 + (2 : Int32))) d_L_law_302 (fun x1039 => ?_)
        refine x_go (pc' := 304) (st' := [.long (Int32.toInt64 x1039), .int x1038, .ref a2]) (fun hC _ _ _ _ _ _ hl k => lv_i2l hC.1 hC.2.1 d_L_law_303 rfl k) ?_
        refine x_go (pc' := 306) (st' := [.int (32 : Int32), .long (Int32.toInt64 x1039), .int x1038, .ref a2]) (fun hC _ _ _ _ _ _ hl k => lv_bipush (v := 32) hC.1 hC.2.1 d_L_law_304 (by decide) k) ?_
        refine x_go (pc' := 307) (st' := [.long ((Int32.toInt64 x1039) <<< (Int32.toInt64 (32 : Int32) &&& 63)), .int x1038, .ref a2]) (fun hC _ _ _ _ _ _ hl k => lv_lshl hC.1 hC.2.1 d_L_law_306 rfl k) ?_
        refine x_go (pc' := 308) (st' := [.ref b, .long ((Int32.toInt64 x1039) <<< (Int32.toInt64 (32 : Int32) &&& 63)), .int x1038, .ref a2]) (fun hC _ _ _ _ _ _ hl k => lv_aload_n hC.1 hC.2.1 d_L_law_307 rfl (lv_at hl 0 rfl) k) ?_
        refine x_go (pc' := 309) (st' := [.int x3, .ref b, .long ((Int32.toInt64 x1039) <<< (Int32.toInt64 (32 : Int32) &&& 63)), .int x1038, .ref a2]) (fun hC _ _ _ _ _ _ hl k => lv_iload_n hC.1 hC.2.1 d_L_law_308 rfl (lv_at hl 3 rfl) k) ?_
        refine x_go (pc' := 310) (st' := [.int (3 : Int32), .int x3, .ref b, .long ((Int32.toInt64 x1039) <<< (Int32.toInt64 (32 : Int32) &&& 63)), .int x1038, .ref a2]) (fun hC _ _ _ _ _ _ hl k => lv_iconst (v := 3) hC.1 hC.2.1 d_L_law_309 (by decide) k) ?_
        refine x_go (pc' := 311) (st' := [.int (x3 + (3 : Int32)), .ref b, .long ((Int32.toInt64 x1039) <<< (Int32.toInt64 (32 : Int32) &&& 63)), .int x1038, .ref a2]) (fun hC _ _ _ _ _ _ hl k => lv_iadd hC.1 hC.2.1 d_L_law_310 k) ?_
        refine x_sld hX hb (i := (x3 + (3 : Int32))) d_L_law_311 (fun x1040 => ?_)
        refine x_go (pc' := 313) (st' := [.long (Int32.toInt64 x1040), .long ((Int32.toInt64 x1039) <<< (Int32.toInt64 (32 : Int32) &&& 63)), .int x1038, .ref a2]) (fun hC _ _ _ _ _ _ hl k => lv_i2l hC.1 hC.2.1 d_L_law_312 rfl k) ?_
        refine x_go (pc' := 316) (st' := [.long (4294967295 : Int64), .long (Int32.toInt64 x1040), .long ((Int32.toInt64 x1039) <<< (Int32.toInt64 (32 : Int32) &&& 63)), .int x1038, .ref a2]) (fun hC _ _ _ _ _ _ hl k => lv_ldc2 hC.1 hC.2.1 hC.2.2.2.1 (hC.2.2.2.2.1 _ tw_489) d_L_law_313 k) ?_
        refine x_go (pc' := 317) (st' := [.long ((Int32.toInt64 x1040) &&& (4294967295 : Int64)), .long ((Int32.toInt64 x1039) <<< (Int32.toInt64 (32 : Int32) &&& 63)), .int x1038, .ref a2]) (fun hC _ _ _ _ _ _ hl k => lv_land hC.1 hC.2.1 d_L_law_316 k) ?_
        refine x_go (pc' := 318) (st' := [.long (((Int32.toInt64 x1039) <<< (Int32.toInt64 (32 : Int32) &&& 63)) ||| ((Int32.toInt64 x1040) &&& (4294967295 : Int64))), .int x1038, .ref a2]) (fun hC _ _ _ _ _ _ hl k => lv_lor hC.1 hC.2.1 d_L_law_317 k) ?_
        refine x_recv (ci := 4) (r := (some a2)) (fun b1043 _ eb1043 gb1043 => ?_)
        refine x_callI (rest := []) (c_M_cell l B b1043 x1038 (((Int32.toInt64 x1039) <<< (Int32.toInt64 (32 : Int32) &&& 63)) ||| ((Int32.toInt64 x1040) &&& (4294967295 : Int64))) h1035) (fun hC => fun e1 e2 e3 e4 hM => fun hR hsz hc hs => run_V (n := 2) hC lw_good rfl rfl tw_401 tw_402 tw_403 tw_3 tw_404 (by decide) d_L_law_318 gb1043 (by rw [e1]; exact Nat.le_of_ble_eq_true rfl) (by rw [e2]; exact Nat.le_of_ble_eq_true rfl) e3 e4 hM hR hsz hc hs rfl (by cases eb1043; rfl) (Nat.le_of_ble_eq_true rfl)) (fun x1042 h1041 => ?_)
        refine x_go (pc' := 322) (st' := []) (fun hC _ _ _ _ _ _ hl k => lv_pop hC.1 hC.2.1 d_L_law_321 rfl k) ?_
        refine x_go (pc' := 573) (st' := []) (fun hC _ _ _ _ _ _ hl k => lv_goto (tgt := 573) hC.1 hC.2.1 d_L_law_322 (by decide) k) ?_
        refine x_lift (pc' := 576) (st' := []) (lv' := [(3, .int (x3 + (9))), (0, .ref b), (1, .ref a1), (2, .ref a2)]) (fun hC _ _ _ _ _ _ hl k => lv_iinc (v := (x3 + (9))) hC.1 hC.2.1 d_L_law_573 hl (k := 3) rfl rfl (by decide) rfl k) ?_
        refine x_go (pc' := 18) (st' := []) (fun hC _ _ _ _ _ _ hl k => lv_goto (tgt := 18) hC.1 hC.2.1 d_L_law_576 (by decide) k) ?_
        exact x_sub (lv' := [(0, .ref b), (1, .ref a1), (2, .ref a2), (3, .int (x3 + (9)))]) [1, 2, 3, 0] rfl (ih a1 a2 (x3 + (9)) h1041)
      refine x_split (P := (x1001 &&& (15 : Int32)) = 3) (fun ec => ?_) (fun ed3 => ?_)
      · refine x_go (pc' := 325) (st' := []) (fun hC _ _ _ _ _ _ hl k => lv_tableIn (tgt := 325) hC.1 hC.2.1 d_L_law_33 (by rw [ec]; decide) (by rw [ec]; decide) (by rw [ec]; rfl) (by decide) k) ?_
        refine x_go (pc' := 326) (st' := [.ref a1]) (fun hC _ _ _ _ _ _ hl k => lv_aload_n hC.1 hC.2.1 d_L_law_325 rfl (lv_at hl 1 rfl) k) ?_
        refine x_recv (ci := 3) (r := (some a1)) (fun b1045 _ eb1045 gb1045 => ?_)
        refine x_callU (rest := []) (c_D_clear l B b1045 h) (fun hC => fun e1 e2 e3 e4 hM => fun hR hsz hc hs => run_V (n := 0) hC lw_good rfl rfl tw_173 tw_174 tw_175 tw_1 tw_176 (by decide) d_L_law_326 gb1045 (by rw [e1]; exact Nat.le_of_ble_eq_true rfl) (by rw [e2]; exact Nat.le_of_ble_eq_true rfl) e3 e4 hM hR hsz hc hs rfl (by cases eb1045; rfl) (Nat.le_of_ble_eq_true rfl)) (fun h1044 => ?_)
        refine x_go (pc' := 330) (st' := [.ref a2]) (fun hC _ _ _ _ _ _ hl k => lv_aload_n hC.1 hC.2.1 d_L_law_329 rfl (lv_at hl 2 rfl) k) ?_
        refine x_recv (ci := 4) (r := (some a2)) (fun b1047 _ eb1047 gb1047 => ?_)
        refine x_callU (rest := []) (c_M_clear l B b1047 h1044) (fun hC => fun e1 e2 e3 e4 hM => fun hR hsz hc hs => run_V (n := 0) hC lw_good rfl rfl tw_405 tw_406 tw_407 tw_3 tw_408 (by decide) d_L_law_330 gb1047 (by rw [e1]; exact Nat.le_of_ble_eq_true rfl) (by rw [e2]; exact Nat.le_of_ble_eq_true rfl) e3 e4 hM hR hsz hc hs rfl (by cases eb1047; rfl) (Nat.le_of_ble_eq_true rfl)) (fun h1046 => ?_)
        refine x_go (pc' := 573) (st' := []) (fun hC _ _ _ _ _ _ hl k => lv_goto (tgt := 573) hC.1 hC.2.1 d_L_law_333 (by decide) k) ?_
        refine x_lift (pc' := 576) (st' := []) (lv' := [(3, .int (x3 + (9))), (0, .ref b), (1, .ref a1), (2, .ref a2)]) (fun hC _ _ _ _ _ _ hl k => lv_iinc (v := (x3 + (9))) hC.1 hC.2.1 d_L_law_573 hl (k := 3) rfl rfl (by decide) rfl k) ?_
        refine x_go (pc' := 18) (st' := []) (fun hC _ _ _ _ _ _ hl k => lv_goto (tgt := 18) hC.1 hC.2.1 d_L_law_576 (by decide) k) ?_
        exact x_sub (lv' := [(0, .ref b), (1, .ref a1), (2, .ref a2), (3, .int (x3 + (9)))]) [1, 2, 3, 0] rfl (ih a1 a2 (x3 + (9)) h1046)
      refine x_split (P := (x1001 &&& (15 : Int32)) = 4) (fun ec => ?_) (fun ed4 => ?_)
      · refine x_go (pc' := 336) (st' := []) (fun hC _ _ _ _ _ _ hl k => lv_tableIn (tgt := 336) hC.1 hC.2.1 d_L_law_33 (by rw [ec]; decide) (by rw [ec]; decide) (by rw [ec]; rfl) (by decide) k) ?_
        refine x_go (pc' := 337) (st' := [.ref a1]) (fun hC _ _ _ _ _ _ hl k => lv_aload_n hC.1 hC.2.1 d_L_law_336 rfl (lv_at hl 1 rfl) k) ?_
        refine x_go (pc' := 338) (st' := [.ref b, .ref a1]) (fun hC _ _ _ _ _ _ hl k => lv_aload_n hC.1 hC.2.1 d_L_law_337 rfl (lv_at hl 0 rfl) k) ?_
        refine x_go (pc' := 339) (st' := [.int x3, .ref b, .ref a1]) (fun hC _ _ _ _ _ _ hl k => lv_iload_n hC.1 hC.2.1 d_L_law_338 rfl (lv_at hl 3 rfl) k) ?_
        refine x_go (pc' := 340) (st' := [.int (1 : Int32), .int x3, .ref b, .ref a1]) (fun hC _ _ _ _ _ _ hl k => lv_iconst (v := 1) hC.1 hC.2.1 d_L_law_339 (by decide) k) ?_
        refine x_go (pc' := 341) (st' := [.int (x3 + (1 : Int32)), .ref b, .ref a1]) (fun hC _ _ _ _ _ _ hl k => lv_iadd hC.1 hC.2.1 d_L_law_340 k) ?_
        refine x_sld hX hb (i := (x3 + (1 : Int32))) d_L_law_341 (fun x1048 => ?_)
        refine x_go (pc' := 343) (st' := [.ref b, .int x1048, .ref a1]) (fun hC _ _ _ _ _ _ hl k => lv_aload_n hC.1 hC.2.1 d_L_law_342 rfl (lv_at hl 0 rfl) k) ?_
        refine x_go (pc' := 344) (st' := [.int x3, .ref b, .int x1048, .ref a1]) (fun hC _ _ _ _ _ _ hl k => lv_iload_n hC.1 hC.2.1 d_L_law_343 rfl (lv_at hl 3 rfl) k) ?_
        refine x_go (pc' := 345) (st' := [.int (2 : Int32), .int x3, .ref b, .int x1048, .ref a1]) (fun hC _ _ _ _ _ _ hl k => lv_iconst (v := 2) hC.1 hC.2.1 d_L_law_344 (by decide) k) ?_
        refine x_go (pc' := 346) (st' := [.int (x3 + (2 : Int32)), .ref b, .int x1048, .ref a1]) (fun hC _ _ _ _ _ _ hl k => lv_iadd hC.1 hC.2.1 d_L_law_345 k) ?_
        refine x_sld hX hb (i := (x3 + (2 : Int32))) d_L_law_346 (fun x1049 => ?_)
        refine x_recv (ci := 3) (r := (some a1)) (fun b1052 _ eb1052 gb1052 => ?_)
        refine x_callI (rest := []) (c_D_write l B b1052 x1048 x1049 h) (fun hC => fun e1 e2 e3 e4 hM => fun hR hsz hc hs => run_V (n := 2) hC lw_good rfl rfl tw_181 tw_182 tw_183 tw_1 tw_184 (by decide) d_L_law_347 gb1052 (by rw [e1]; exact Nat.le_of_ble_eq_true rfl) (by rw [e2]; exact Nat.le_of_ble_eq_true rfl) e3 e4 hM hR hsz hc hs rfl (by cases eb1052; rfl) (Nat.le_of_ble_eq_true rfl)) (fun x1051 h1050 => ?_)
        refine x_go (pc' := 351) (st' := []) (fun hC _ _ _ _ _ _ hl k => lv_pop hC.1 hC.2.1 d_L_law_350 rfl k) ?_
        refine x_go (pc' := 352) (st' := [.ref a2]) (fun hC _ _ _ _ _ _ hl k => lv_aload_n hC.1 hC.2.1 d_L_law_351 rfl (lv_at hl 2 rfl) k) ?_
        refine x_go (pc' := 353) (st' := [.ref b, .ref a2]) (fun hC _ _ _ _ _ _ hl k => lv_aload_n hC.1 hC.2.1 d_L_law_352 rfl (lv_at hl 0 rfl) k) ?_
        refine x_go (pc' := 354) (st' := [.int x3, .ref b, .ref a2]) (fun hC _ _ _ _ _ _ hl k => lv_iload_n hC.1 hC.2.1 d_L_law_353 rfl (lv_at hl 3 rfl) k) ?_
        refine x_go (pc' := 355) (st' := [.int (1 : Int32), .int x3, .ref b, .ref a2]) (fun hC _ _ _ _ _ _ hl k => lv_iconst (v := 1) hC.1 hC.2.1 d_L_law_354 (by decide) k) ?_
        refine x_go (pc' := 356) (st' := [.int (x3 + (1 : Int32)), .ref b, .ref a2]) (fun hC _ _ _ _ _ _ hl k => lv_iadd hC.1 hC.2.1 d_L_law_355 k) ?_
        refine x_sld hX hb (i := (x3 + (1 : Int32))) d_L_law_356 (fun x1053 => ?_)
        refine x_go (pc' := 358) (st' := [.ref b, .int x1053, .ref a2]) (fun hC _ _ _ _ _ _ hl k => lv_aload_n hC.1 hC.2.1 d_L_law_357 rfl (lv_at hl 0 rfl) k) ?_
        refine x_go (pc' := 359) (st' := [.int x3, .ref b, .int x1053, .ref a2]) (fun hC _ _ _ _ _ _ hl k => lv_iload_n hC.1 hC.2.1 d_L_law_358 rfl (lv_at hl 3 rfl) k) ?_
        refine x_go (pc' := 360) (st' := [.int (2 : Int32), .int x3, .ref b, .int x1053, .ref a2]) (fun hC _ _ _ _ _ _ hl k => lv_iconst (v := 2) hC.1 hC.2.1 d_L_law_359 (by decide) k) ?_
        refine x_go (pc' := 361) (st' := [.int (x3 + (2 : Int32)), .ref b, .int x1053, .ref a2]) (fun hC _ _ _ _ _ _ hl k => lv_iadd hC.1 hC.2.1 d_L_law_360 k) ?_
        refine x_sld hX hb (i := (x3 + (2 : Int32))) d_L_law_361 (fun x1054 => ?_)
        refine x_recv (ci := 4) (r := (some a2)) (fun b1057 _ eb1057 gb1057 => ?_)
        refine x_callI (rest := []) (c_M_write l B b1057 x1053 x1054 h1050) (fun hC => fun e1 e2 e3 e4 hM => fun hR hsz hc hs => run_V (n := 2) hC lw_good rfl rfl tw_409 tw_410 tw_411 tw_3 tw_412 (by decide) d_L_law_362 gb1057 (by rw [e1]; exact Nat.le_of_ble_eq_true rfl) (by rw [e2]; exact Nat.le_of_ble_eq_true rfl) e3 e4 hM hR hsz hc hs rfl (by cases eb1057; rfl) (Nat.le_of_ble_eq_true rfl)) (fun x1056 h1055 => ?_)
        refine x_go (pc' := 366) (st' := []) (fun hC _ _ _ _ _ _ hl k => lv_pop hC.1 hC.2.1 d_L_law_365 rfl k) ?_
        refine x_go (pc' := 573) (st' := []) (fun hC _ _ _ _ _ _ hl k => lv_goto (tgt := 573) hC.1 hC.2.1 d_L_law_366 (by decide) k) ?_
        refine x_lift (pc' := 576) (st' := []) (lv' := [(3, .int (x3 + (9))), (0, .ref b), (1, .ref a1), (2, .ref a2)]) (fun hC _ _ _ _ _ _ hl k => lv_iinc (v := (x3 + (9))) hC.1 hC.2.1 d_L_law_573 hl (k := 3) rfl rfl (by decide) rfl k) ?_
        refine x_go (pc' := 18) (st' := []) (fun hC _ _ _ _ _ _ hl k => lv_goto (tgt := 18) hC.1 hC.2.1 d_L_law_576 (by decide) k) ?_
        exact x_sub (lv' := [(0, .ref b), (1, .ref a1), (2, .ref a2), (3, .int (x3 + (9)))]) [1, 2, 3, 0] rfl (ih a1 a2 (x3 + (9)) h1055)
      refine x_split (P := (x1001 &&& (15 : Int32)) = 5) (fun ec => ?_) (fun ed5 => ?_)
      · refine x_go (pc' := 369) (st' := []) (fun hC _ _ _ _ _ _ hl k => lv_tableIn (tgt := 369) hC.1 hC.2.1 d_L_law_33 (by rw [ec]; decide) (by rw [ec]; decide) (by rw [ec]; rfl) (by decide) k) ?_
        refine x_go (pc' := 370) (st' := [.ref a1]) (fun hC _ _ _ _ _ _ hl k => lv_aload_n hC.1 hC.2.1 d_L_law_369 rfl (lv_at hl 1 rfl) k) ?_
        refine x_go (pc' := 371) (st' := [.ref b, .ref a1]) (fun hC _ _ _ _ _ _ hl k => lv_aload_n hC.1 hC.2.1 d_L_law_370 rfl (lv_at hl 0 rfl) k) ?_
        refine x_go (pc' := 372) (st' := [.int x3, .ref b, .ref a1]) (fun hC _ _ _ _ _ _ hl k => lv_iload_n hC.1 hC.2.1 d_L_law_371 rfl (lv_at hl 3 rfl) k) ?_
        refine x_go (pc' := 373) (st' := [.int (1 : Int32), .int x3, .ref b, .ref a1]) (fun hC _ _ _ _ _ _ hl k => lv_iconst (v := 1) hC.1 hC.2.1 d_L_law_372 (by decide) k) ?_
        refine x_go (pc' := 374) (st' := [.int (x3 + (1 : Int32)), .ref b, .ref a1]) (fun hC _ _ _ _ _ _ hl k => lv_iadd hC.1 hC.2.1 d_L_law_373 k) ?_
        refine x_sld hX hb (i := (x3 + (1 : Int32))) d_L_law_374 (fun x1058 => ?_)
        refine x_go (pc' := 376) (st' := [.ref b, .int x1058, .ref a1]) (fun hC _ _ _ _ _ _ hl k => lv_aload_n hC.1 hC.2.1 d_L_law_375 rfl (lv_at hl 0 rfl) k) ?_
        refine x_go (pc' := 377) (st' := [.int x3, .ref b, .int x1058, .ref a1]) (fun hC _ _ _ _ _ _ hl k => lv_iload_n hC.1 hC.2.1 d_L_law_376 rfl (lv_at hl 3 rfl) k) ?_
        refine x_go (pc' := 378) (st' := [.int (2 : Int32), .int x3, .ref b, .int x1058, .ref a1]) (fun hC _ _ _ _ _ _ hl k => lv_iconst (v := 2) hC.1 hC.2.1 d_L_law_377 (by decide) k) ?_
        refine x_go (pc' := 379) (st' := [.int (x3 + (2 : Int32)), .ref b, .int x1058, .ref a1]) (fun hC _ _ _ _ _ _ hl k => lv_iadd hC.1 hC.2.1 d_L_law_378 k) ?_
        refine x_sld hX hb (i := (x3 + (2 : Int32))) d_L_law_379 (fun x1059 => ?_)
        refine x_recv (ci := 3) (r := (some a1)) (fun b1062 _ eb1062 gb1062 => ?_)
        refine x_callI (rest := []) (c_D_miss l B b1062 x1058 x1059 h) (fun hC => fun e1 e2 e3 e4 hM => fun hR hsz hc hs => run_V (n := 2) hC lw_good rfl rfl tw_233 tw_234 tw_235 tw_1 tw_236 (by decide) d_L_law_380 gb1062 (by rw [e1]; exact Nat.le_of_ble_eq_true rfl) (by rw [e2]; exact Nat.le_of_ble_eq_true rfl) e3 e4 hM hR hsz hc hs rfl (by cases eb1062; rfl) (Nat.le_of_ble_eq_true rfl)) (fun x1061 h1060 => ?_)
        refine x_go (pc' := 384) (st' := []) (fun hC _ _ _ _ _ _ hl k => lv_pop hC.1 hC.2.1 d_L_law_383 rfl k) ?_
        refine x_go (pc' := 385) (st' := [.ref a2]) (fun hC _ _ _ _ _ _ hl k => lv_aload_n hC.1 hC.2.1 d_L_law_384 rfl (lv_at hl 2 rfl) k) ?_
        refine x_go (pc' := 386) (st' := [.ref b, .ref a2]) (fun hC _ _ _ _ _ _ hl k => lv_aload_n hC.1 hC.2.1 d_L_law_385 rfl (lv_at hl 0 rfl) k) ?_
        refine x_go (pc' := 387) (st' := [.int x3, .ref b, .ref a2]) (fun hC _ _ _ _ _ _ hl k => lv_iload_n hC.1 hC.2.1 d_L_law_386 rfl (lv_at hl 3 rfl) k) ?_
        refine x_go (pc' := 388) (st' := [.int (1 : Int32), .int x3, .ref b, .ref a2]) (fun hC _ _ _ _ _ _ hl k => lv_iconst (v := 1) hC.1 hC.2.1 d_L_law_387 (by decide) k) ?_
        refine x_go (pc' := 389) (st' := [.int (x3 + (1 : Int32)), .ref b, .ref a2]) (fun hC _ _ _ _ _ _ hl k => lv_iadd hC.1 hC.2.1 d_L_law_388 k) ?_
        refine x_sld hX hb (i := (x3 + (1 : Int32))) d_L_law_389 (fun x1063 => ?_)
        refine x_go (pc' := 391) (st' := [.ref b, .int x1063, .ref a2]) (fun hC _ _ _ _ _ _ hl k => lv_aload_n hC.1 hC.2.1 d_L_law_390 rfl (lv_at hl 0 rfl) k) ?_
        refine x_go (pc' := 392) (st' := [.int x3, .ref b, .int x1063, .ref a2]) (fun hC _ _ _ _ _ _ hl k => lv_iload_n hC.1 hC.2.1 d_L_law_391 rfl (lv_at hl 3 rfl) k) ?_
        refine x_go (pc' := 393) (st' := [.int (2 : Int32), .int x3, .ref b, .int x1063, .ref a2]) (fun hC _ _ _ _ _ _ hl k => lv_iconst (v := 2) hC.1 hC.2.1 d_L_law_392 (by decide) k) ?_
        refine x_go (pc' := 394) (st' := [.int (x3 + (2 : Int32)), .ref b, .int x1063, .ref a2]) (fun hC _ _ _ _ _ _ hl k => lv_iadd hC.1 hC.2.1 d_L_law_393 k) ?_
        refine x_sld hX hb (i := (x3 + (2 : Int32))) d_L_law_394 (fun x1064 => ?_)
        refine x_recv (ci := 4) (r := (some a2)) (fun b1067 _ eb1067 gb1067 => ?_)
        refine x_callI (rest := []) (c_M_miss l B b1067 x1063 x1064 h1060) (fun hC => fun e1 e2 e3 e4 hM => fun hR hsz hc hs => run_V (n := 2) hC lw_good rfl rfl tw_433 tw_434 tw_435 tw_3 tw_436 (by decide) d_L_law_395 gb1067 (by rw [e1]; exact Nat.le_of_ble_eq_true rfl) (by rw [e2]; exact Nat.le_of_ble_eq_true rfl) e3 e4 hM hR hsz hc hs rfl (by cases eb1067; rfl) (Nat.le_of_ble_eq_true rfl)) (fun x1066 h1065 => ?_)
        refine x_go (pc' := 399) (st' := []) (fun hC _ _ _ _ _ _ hl k => lv_pop hC.1 hC.2.1 d_L_law_398 rfl k) ?_
        refine x_go (pc' := 573) (st' := []) (fun hC _ _ _ _ _ _ hl k => lv_goto (tgt := 573) hC.1 hC.2.1 d_L_law_399 (by decide) k) ?_
        refine x_lift (pc' := 576) (st' := []) (lv' := [(3, .int (x3 + (9))), (0, .ref b), (1, .ref a1), (2, .ref a2)]) (fun hC _ _ _ _ _ _ hl k => lv_iinc (v := (x3 + (9))) hC.1 hC.2.1 d_L_law_573 hl (k := 3) rfl rfl (by decide) rfl k) ?_
        refine x_go (pc' := 18) (st' := []) (fun hC _ _ _ _ _ _ hl k => lv_goto (tgt := 18) hC.1 hC.2.1 d_L_law_576 (by decide) k) ?_
        exact x_sub (lv' := [(0, .ref b), (1, .ref a1), (2, .ref a2), (3, .int (x3 + (9)))]) [1, 2, 3, 0] rfl (ih a1 a2 (x3 + (9)) h1065)
      refine x_split (P := (x1001 &&& (15 : Int32)) = 6) (fun ec => ?_) (fun ed6 => ?_)
      · refine x_go (pc' := 402) (st' := []) (fun hC _ _ _ _ _ _ hl k => lv_tableIn (tgt := 402) hC.1 hC.2.1 d_L_law_33 (by rw [ec]; decide) (by rw [ec]; decide) (by rw [ec]; rfl) (by decide) k) ?_
        refine x_go (pc' := 403) (st' := [.ref a1]) (fun hC _ _ _ _ _ _ hl k => lv_aload_n hC.1 hC.2.1 d_L_law_402 rfl (lv_at hl 1 rfl) k) ?_
        refine x_go (pc' := 404) (st' := [.ref b, .ref a1]) (fun hC _ _ _ _ _ _ hl k => lv_aload_n hC.1 hC.2.1 d_L_law_403 rfl (lv_at hl 0 rfl) k) ?_
        refine x_go (pc' := 405) (st' := [.int x3, .ref b, .ref a1]) (fun hC _ _ _ _ _ _ hl k => lv_iload_n hC.1 hC.2.1 d_L_law_404 rfl (lv_at hl 3 rfl) k) ?_
        refine x_go (pc' := 406) (st' := [.int (1 : Int32), .int x3, .ref b, .ref a1]) (fun hC _ _ _ _ _ _ hl k => lv_iconst (v := 1) hC.1 hC.2.1 d_L_law_405 (by decide) k) ?_
        refine x_go (pc' := 407) (st' := [.int (x3 + (1 : Int32)), .ref b, .ref a1]) (fun hC _ _ _ _ _ _ hl k => lv_iadd hC.1 hC.2.1 d_L_law_406 k) ?_
        refine x_sld hX hb (i := (x3 + (1 : Int32))) d_L_law_407 (fun x1068 => ?_)
        refine x_recv (ci := 3) (r := (some a1)) (fun b1071 _ eb1071 gb1071 => ?_)
        refine x_callI (rest := []) (c_D_commit l B b1071 x1068 h) (fun hC => fun e1 e2 e3 e4 hM => fun hR hsz hc hs => run_V (n := 1) hC lw_good rfl rfl tw_254 tw_255 tw_256 tw_1 tw_257 (by decide) d_L_law_408 gb1071 (by rw [e1]; exact Nat.le_of_ble_eq_true rfl) (by rw [e2]; exact Nat.le_of_ble_eq_true rfl) e3 e4 hM hR hsz hc hs rfl (by cases eb1071; rfl) (Nat.le_of_ble_eq_true rfl)) (fun x1070 h1069 => ?_)
        refine x_go (pc' := 412) (st' := [.ref a2, .int x1070]) (fun hC _ _ _ _ _ _ hl k => lv_aload_n hC.1 hC.2.1 d_L_law_411 rfl (lv_at hl 2 rfl) k) ?_
        refine x_go (pc' := 413) (st' := [.ref b, .ref a2, .int x1070]) (fun hC _ _ _ _ _ _ hl k => lv_aload_n hC.1 hC.2.1 d_L_law_412 rfl (lv_at hl 0 rfl) k) ?_
        refine x_go (pc' := 414) (st' := [.int x3, .ref b, .ref a2, .int x1070]) (fun hC _ _ _ _ _ _ hl k => lv_iload_n hC.1 hC.2.1 d_L_law_413 rfl (lv_at hl 3 rfl) k) ?_
        refine x_go (pc' := 415) (st' := [.int (1 : Int32), .int x3, .ref b, .ref a2, .int x1070]) (fun hC _ _ _ _ _ _ hl k => lv_iconst (v := 1) hC.1 hC.2.1 d_L_law_414 (by decide) k) ?_
        refine x_go (pc' := 416) (st' := [.int (x3 + (1 : Int32)), .ref b, .ref a2, .int x1070]) (fun hC _ _ _ _ _ _ hl k => lv_iadd hC.1 hC.2.1 d_L_law_415 k) ?_
        refine x_sld hX hb (i := (x3 + (1 : Int32))) d_L_law_416 (fun x1072 => ?_)
        refine x_recv (ci := 4) (r := (some a2)) (fun b1075 _ eb1075 gb1075 => ?_)
        refine x_callI (rest := [.int x1070]) (c_M_commit l B b1075 x1072 h1069) (fun hC => fun e1 e2 e3 e4 hM => fun hR hsz hc hs => run_V (n := 1) hC lw_good rfl rfl tw_441 tw_442 tw_443 tw_3 tw_444 (by decide) d_L_law_417 gb1075 (by rw [e1]; exact Nat.le_of_ble_eq_true rfl) (by rw [e2]; exact Nat.le_of_ble_eq_true rfl) e3 e4 hM hR hsz hc hs rfl (by cases eb1075; rfl) (Nat.le_of_ble_eq_true rfl)) (fun x1074 h1073 => ?_)
        refine x_if (P := x1070 = x1074) (pt := 573) (pf := 423) (st' := []) (fun hC _ _ _ _ _ _ kt kf => lv_icmp_eq (tgt := 573) hC.1 hC.2.1 d_L_law_420 (by decide) kt kf) ?_ ?_
        · refine x_lift (pc' := 576) (st' := []) (lv' := [(3, .int (x3 + (9))), (0, .ref b), (1, .ref a1), (2, .ref a2)]) (fun hC _ _ _ _ _ _ hl k => lv_iinc (v := (x3 + (9))) hC.1 hC.2.1 d_L_law_573 hl (k := 3) rfl rfl (by decide) rfl k) ?_
          refine x_go (pc' := 18) (st' := []) (fun hC _ _ _ _ _ _ hl k => lv_goto (tgt := 18) hC.1 hC.2.1 d_L_law_576 (by decide) k) ?_
          exact x_sub (lv' := [(0, .ref b), (1, .ref a1), (2, .ref a2), (3, .int (x3 + (9)))]) [1, 2, 3, 0] rfl (ih a1 a2 (x3 + (9)) h1073)
        · refine x_go (pc' := 424) (st' := [.int (0 : Int32)]) (fun hC _ _ _ _ _ _ hl k => lv_iconst (v := 0) hC.1 hC.2.1 d_L_law_423 (by decide) k) ?_
          exact x_lawret hB d_L_law_424
      refine x_split (P := (x1001 &&& (15 : Int32)) = 7) (fun ec => ?_) (fun ed7 => ?_)
      · refine x_go (pc' := 425) (st' := []) (fun hC _ _ _ _ _ _ hl k => lv_tableIn (tgt := 425) hC.1 hC.2.1 d_L_law_33 (by rw [ec]; decide) (by rw [ec]; decide) (by rw [ec]; rfl) (by decide) k) ?_
        refine x_go (pc' := 426) (st' := [.ref a1]) (fun hC _ _ _ _ _ _ hl k => lv_aload_n hC.1 hC.2.1 d_L_law_425 rfl (lv_at hl 1 rfl) k) ?_
        refine x_go (pc' := 427) (st' := [.ref b, .ref a1]) (fun hC _ _ _ _ _ _ hl k => lv_aload_n hC.1 hC.2.1 d_L_law_426 rfl (lv_at hl 0 rfl) k) ?_
        refine x_go (pc' := 428) (st' := [.int x3, .ref b, .ref a1]) (fun hC _ _ _ _ _ _ hl k => lv_iload_n hC.1 hC.2.1 d_L_law_427 rfl (lv_at hl 3 rfl) k) ?_
        refine x_go (pc' := 429) (st' := [.int (1 : Int32), .int x3, .ref b, .ref a1]) (fun hC _ _ _ _ _ _ hl k => lv_iconst (v := 1) hC.1 hC.2.1 d_L_law_428 (by decide) k) ?_
        refine x_go (pc' := 430) (st' := [.int (x3 + (1 : Int32)), .ref b, .ref a1]) (fun hC _ _ _ _ _ _ hl k => lv_iadd hC.1 hC.2.1 d_L_law_429 k) ?_
        refine x_sld hX hb (i := (x3 + (1 : Int32))) d_L_law_430 (fun x1076 => ?_)
        refine x_recv (ci := 3) (r := (some a1)) (fun b1079 _ eb1079 gb1079 => ?_)
        refine x_callI (rest := []) (c_D_abort l B b1079 x1076 h) (fun hC => fun e1 e2 e3 e4 hM => fun hR hsz hc hs => run_V (n := 1) hC lw_good rfl rfl tw_280 tw_281 tw_282 tw_1 tw_283 (by decide) d_L_law_431 gb1079 (by rw [e1]; exact Nat.le_of_ble_eq_true rfl) (by rw [e2]; exact Nat.le_of_ble_eq_true rfl) e3 e4 hM hR hsz hc hs rfl (by cases eb1079; rfl) (Nat.le_of_ble_eq_true rfl)) (fun x1078 h1077 => ?_)
        refine x_go (pc' := 435) (st' := []) (fun hC _ _ _ _ _ _ hl k => lv_pop hC.1 hC.2.1 d_L_law_434 rfl k) ?_
        refine x_go (pc' := 436) (st' := [.ref a2]) (fun hC _ _ _ _ _ _ hl k => lv_aload_n hC.1 hC.2.1 d_L_law_435 rfl (lv_at hl 2 rfl) k) ?_
        refine x_go (pc' := 437) (st' := [.ref b, .ref a2]) (fun hC _ _ _ _ _ _ hl k => lv_aload_n hC.1 hC.2.1 d_L_law_436 rfl (lv_at hl 0 rfl) k) ?_
        refine x_go (pc' := 438) (st' := [.int x3, .ref b, .ref a2]) (fun hC _ _ _ _ _ _ hl k => lv_iload_n hC.1 hC.2.1 d_L_law_437 rfl (lv_at hl 3 rfl) k) ?_
        refine x_go (pc' := 439) (st' := [.int (1 : Int32), .int x3, .ref b, .ref a2]) (fun hC _ _ _ _ _ _ hl k => lv_iconst (v := 1) hC.1 hC.2.1 d_L_law_438 (by decide) k) ?_
        refine x_go (pc' := 440) (st' := [.int (x3 + (1 : Int32)), .ref b, .ref a2]) (fun hC _ _ _ _ _ _ hl k => lv_iadd hC.1 hC.2.1 d_L_law_439 k) ?_
        refine x_sld hX hb (i := (x3 + (1 : Int32))) d_L_law_440 (fun x1080 => ?_)
        refine x_recv (ci := 4) (r := (some a2)) (fun b1083 _ eb1083 gb1083 => ?_)
        refine x_callI (rest := []) (c_M_abort l B b1083 x1080 h1077) (fun hC => fun e1 e2 e3 e4 hM => fun hR hsz hc hs => run_V (n := 1) hC lw_good rfl rfl tw_457 tw_458 tw_459 tw_3 tw_460 (by decide) d_L_law_441 gb1083 (by rw [e1]; exact Nat.le_of_ble_eq_true rfl) (by rw [e2]; exact Nat.le_of_ble_eq_true rfl) e3 e4 hM hR hsz hc hs rfl (by cases eb1083; rfl) (Nat.le_of_ble_eq_true rfl)) (fun x1082 h1081 => ?_)
        refine x_go (pc' := 445) (st' := []) (fun hC _ _ _ _ _ _ hl k => lv_pop hC.1 hC.2.1 d_L_law_444 rfl k) ?_
        refine x_go (pc' := 573) (st' := []) (fun hC _ _ _ _ _ _ hl k => lv_goto (tgt := 573) hC.1 hC.2.1 d_L_law_445 (by decide) k) ?_
        refine x_lift (pc' := 576) (st' := []) (lv' := [(3, .int (x3 + (9))), (0, .ref b), (1, .ref a1), (2, .ref a2)]) (fun hC _ _ _ _ _ _ hl k => lv_iinc (v := (x3 + (9))) hC.1 hC.2.1 d_L_law_573 hl (k := 3) rfl rfl (by decide) rfl k) ?_
        refine x_go (pc' := 18) (st' := []) (fun hC _ _ _ _ _ _ hl k => lv_goto (tgt := 18) hC.1 hC.2.1 d_L_law_576 (by decide) k) ?_
        exact x_sub (lv' := [(0, .ref b), (1, .ref a1), (2, .ref a2), (3, .int (x3 + (9)))]) [1, 2, 3, 0] rfl (ih a1 a2 (x3 + (9)) h1081)
      refine x_split (P := (x1001 &&& (15 : Int32)) = 8) (fun ec => ?_) (fun ed8 => ?_)
      · refine x_go (pc' := 448) (st' := []) (fun hC _ _ _ _ _ _ hl k => lv_tableIn (tgt := 448) hC.1 hC.2.1 d_L_law_33 (by rw [ec]; decide) (by rw [ec]; decide) (by rw [ec]; rfl) (by decide) k) ?_
        refine x_go (pc' := 449) (st' := [.ref a1]) (fun hC _ _ _ _ _ _ hl k => lv_aload_n hC.1 hC.2.1 d_L_law_448 rfl (lv_at hl 1 rfl) k) ?_
        refine x_go (pc' := 450) (st' := [.ref b, .ref a1]) (fun hC _ _ _ _ _ _ hl k => lv_aload_n hC.1 hC.2.1 d_L_law_449 rfl (lv_at hl 0 rfl) k) ?_
        refine x_go (pc' := 451) (st' := [.int x3, .ref b, .ref a1]) (fun hC _ _ _ _ _ _ hl k => lv_iload_n hC.1 hC.2.1 d_L_law_450 rfl (lv_at hl 3 rfl) k) ?_
        refine x_go (pc' := 452) (st' := [.int (1 : Int32), .int x3, .ref b, .ref a1]) (fun hC _ _ _ _ _ _ hl k => lv_iconst (v := 1) hC.1 hC.2.1 d_L_law_451 (by decide) k) ?_
        refine x_go (pc' := 453) (st' := [.int (x3 + (1 : Int32)), .ref b, .ref a1]) (fun hC _ _ _ _ _ _ hl k => lv_iadd hC.1 hC.2.1 d_L_law_452 k) ?_
        refine x_sld hX hb (i := (x3 + (1 : Int32))) d_L_law_453 (fun x1084 => ?_)
        refine x_recv (ci := 3) (r := (some a1)) (fun b1087 _ eb1087 gb1087 => ?_)
        refine x_callI (rest := []) (c_D_doom l B b1087 x1084 h) (fun hC => fun e1 e2 e3 e4 hM => fun hR hsz hc hs => run_V (n := 1) hC lw_good rfl rfl tw_284 tw_285 tw_286 tw_1 tw_287 (by decide) d_L_law_454 gb1087 (by rw [e1]; exact Nat.le_of_ble_eq_true rfl) (by rw [e2]; exact Nat.le_of_ble_eq_true rfl) e3 e4 hM hR hsz hc hs rfl (by cases eb1087; rfl) (Nat.le_of_ble_eq_true rfl)) (fun x1086 h1085 => ?_)
        refine x_go (pc' := 458) (st' := []) (fun hC _ _ _ _ _ _ hl k => lv_pop hC.1 hC.2.1 d_L_law_457 rfl k) ?_
        refine x_go (pc' := 459) (st' := [.ref a2]) (fun hC _ _ _ _ _ _ hl k => lv_aload_n hC.1 hC.2.1 d_L_law_458 rfl (lv_at hl 2 rfl) k) ?_
        refine x_go (pc' := 460) (st' := [.ref b, .ref a2]) (fun hC _ _ _ _ _ _ hl k => lv_aload_n hC.1 hC.2.1 d_L_law_459 rfl (lv_at hl 0 rfl) k) ?_
        refine x_go (pc' := 461) (st' := [.int x3, .ref b, .ref a2]) (fun hC _ _ _ _ _ _ hl k => lv_iload_n hC.1 hC.2.1 d_L_law_460 rfl (lv_at hl 3 rfl) k) ?_
        refine x_go (pc' := 462) (st' := [.int (1 : Int32), .int x3, .ref b, .ref a2]) (fun hC _ _ _ _ _ _ hl k => lv_iconst (v := 1) hC.1 hC.2.1 d_L_law_461 (by decide) k) ?_
        refine x_go (pc' := 463) (st' := [.int (x3 + (1 : Int32)), .ref b, .ref a2]) (fun hC _ _ _ _ _ _ hl k => lv_iadd hC.1 hC.2.1 d_L_law_462 k) ?_
        refine x_sld hX hb (i := (x3 + (1 : Int32))) d_L_law_463 (fun x1088 => ?_)
        refine x_recv (ci := 4) (r := (some a2)) (fun b1091 _ eb1091 gb1091 => ?_)
        refine x_callI (rest := []) (c_M_doom l B b1091 x1088 h1085) (fun hC => fun e1 e2 e3 e4 hM => fun hR hsz hc hs => run_V (n := 1) hC lw_good rfl rfl tw_461 tw_462 tw_463 tw_3 tw_464 (by decide) d_L_law_464 gb1091 (by rw [e1]; exact Nat.le_of_ble_eq_true rfl) (by rw [e2]; exact Nat.le_of_ble_eq_true rfl) e3 e4 hM hR hsz hc hs rfl (by cases eb1091; rfl) (Nat.le_of_ble_eq_true rfl)) (fun x1090 h1089 => ?_)
        refine x_go (pc' := 468) (st' := []) (fun hC _ _ _ _ _ _ hl k => lv_pop hC.1 hC.2.1 d_L_law_467 rfl k) ?_
        refine x_go (pc' := 573) (st' := []) (fun hC _ _ _ _ _ _ hl k => lv_goto (tgt := 573) hC.1 hC.2.1 d_L_law_468 (by decide) k) ?_
        refine x_lift (pc' := 576) (st' := []) (lv' := [(3, .int (x3 + (9))), (0, .ref b), (1, .ref a1), (2, .ref a2)]) (fun hC _ _ _ _ _ _ hl k => lv_iinc (v := (x3 + (9))) hC.1 hC.2.1 d_L_law_573 hl (k := 3) rfl rfl (by decide) rfl k) ?_
        refine x_go (pc' := 18) (st' := []) (fun hC _ _ _ _ _ _ hl k => lv_goto (tgt := 18) hC.1 hC.2.1 d_L_law_576 (by decide) k) ?_
        exact x_sub (lv' := [(0, .ref b), (1, .ref a1), (2, .ref a2), (3, .int (x3 + (9)))]) [1, 2, 3, 0] rfl (ih a1 a2 (x3 + (9)) h1089)
      refine x_split (P := (x1001 &&& (15 : Int32)) = 9) (fun ec => ?_) (fun ed9 => ?_)
      · refine x_go (pc' := 471) (st' := []) (fun hC _ _ _ _ _ _ hl k => lv_tableIn (tgt := 471) hC.1 hC.2.1 d_L_law_33 (by rw [ec]; decide) (by rw [ec]; decide) (by rw [ec]; rfl) (by decide) k) ?_
        refine x_go (pc' := 472) (st' := [.ref a1]) (fun hC _ _ _ _ _ _ hl k => lv_aload_n hC.1 hC.2.1 d_L_law_471 rfl (lv_at hl 1 rfl) k) ?_
        refine x_go (pc' := 473) (st' := [.ref b, .ref a1]) (fun hC _ _ _ _ _ _ hl k => lv_aload_n hC.1 hC.2.1 d_L_law_472 rfl (lv_at hl 0 rfl) k) ?_
        refine x_go (pc' := 474) (st' := [.int x3, .ref b, .ref a1]) (fun hC _ _ _ _ _ _ hl k => lv_iload_n hC.1 hC.2.1 d_L_law_473 rfl (lv_at hl 3 rfl) k) ?_
        refine x_go (pc' := 475) (st' := [.int (1 : Int32), .int x3, .ref b, .ref a1]) (fun hC _ _ _ _ _ _ hl k => lv_iconst (v := 1) hC.1 hC.2.1 d_L_law_474 (by decide) k) ?_
        refine x_go (pc' := 476) (st' := [.int (x3 + (1 : Int32)), .ref b, .ref a1]) (fun hC _ _ _ _ _ _ hl k => lv_iadd hC.1 hC.2.1 d_L_law_475 k) ?_
        refine x_sld hX hb (i := (x3 + (1 : Int32))) d_L_law_476 (fun x1092 => ?_)
        refine x_go (pc' := 478) (st' := [.ref b, .int x1092, .ref a1]) (fun hC _ _ _ _ _ _ hl k => lv_aload_n hC.1 hC.2.1 d_L_law_477 rfl (lv_at hl 0 rfl) k) ?_
        refine x_go (pc' := 479) (st' := [.int x3, .ref b, .int x1092, .ref a1]) (fun hC _ _ _ _ _ _ hl k => lv_iload_n hC.1 hC.2.1 d_L_law_478 rfl (lv_at hl 3 rfl) k) ?_
        refine x_go (pc' := 480) (st' := [.int (2 : Int32), .int x3, .ref b, .int x1092, .ref a1]) (fun hC _ _ _ _ _ _ hl k => lv_iconst (v := 2) hC.1 hC.2.1 d_L_law_479 (by decide) k) ?_
        refine x_go (pc' := 481) (st' := [.int (x3 + (2 : Int32)), .ref b, .int x1092, .ref a1]) (fun hC _ _ _ _ _ _ hl k => lv_iadd hC.1 hC.2.1 d_L_law_480 k) ?_
        refine x_sld hX hb (i := (x3 + (2 : Int32))) d_L_law_481 (fun x1093 => ?_)
        refine x_recv (ci := 3) (r := (some a1)) (fun b1096 _ eb1096 gb1096 => ?_)
        refine x_callI (rest := []) (c_D_look l B b1096 x1092 x1093 h) (fun hC => fun e1 e2 e3 e4 hM => fun hR hsz hc hs => run_V (n := 2) hC lw_good rfl rfl tw_288 tw_289 tw_290 tw_1 tw_291 (by decide) d_L_law_482 gb1096 (by rw [e1]; exact Nat.le_of_ble_eq_true rfl) (by rw [e2]; exact Nat.le_of_ble_eq_true rfl) e3 e4 hM hR hsz hc hs rfl (by cases eb1096; rfl) (Nat.le_of_ble_eq_true rfl)) (fun x1095 h1094 => ?_)
        refine x_go (pc' := 486) (st' := []) (fun hC _ _ _ _ _ _ hl k => lv_pop hC.1 hC.2.1 d_L_law_485 rfl k) ?_
        refine x_go (pc' := 487) (st' := [.ref a2]) (fun hC _ _ _ _ _ _ hl k => lv_aload_n hC.1 hC.2.1 d_L_law_486 rfl (lv_at hl 2 rfl) k) ?_
        refine x_go (pc' := 488) (st' := [.ref b, .ref a2]) (fun hC _ _ _ _ _ _ hl k => lv_aload_n hC.1 hC.2.1 d_L_law_487 rfl (lv_at hl 0 rfl) k) ?_
        refine x_go (pc' := 489) (st' := [.int x3, .ref b, .ref a2]) (fun hC _ _ _ _ _ _ hl k => lv_iload_n hC.1 hC.2.1 d_L_law_488 rfl (lv_at hl 3 rfl) k) ?_
        refine x_go (pc' := 490) (st' := [.int (1 : Int32), .int x3, .ref b, .ref a2]) (fun hC _ _ _ _ _ _ hl k => lv_iconst (v := 1) hC.1 hC.2.1 d_L_law_489 (by decide) k) ?_
        refine x_go (pc' := 491) (st' := [.int (x3 + (1 : Int32)), .ref b, .ref a2]) (fun hC _ _ _ _ _ _ hl k => lv_iadd hC.1 hC.2.1 d_L_law_490 k) ?_
        refine x_sld hX hb (i := (x3 + (1 : Int32))) d_L_law_491 (fun x1097 => ?_)
        refine x_go (pc' := 493) (st' := [.ref b, .int x1097, .ref a2]) (fun hC _ _ _ _ _ _ hl k => lv_aload_n hC.1 hC.2.1 d_L_law_492 rfl (lv_at hl 0 rfl) k) ?_
        refine x_go (pc' := 494) (st' := [.int x3, .ref b, .int x1097, .ref a2]) (fun hC _ _ _ _ _ _ hl k => lv_iload_n hC.1 hC.2.1 d_L_law_493 rfl (lv_at hl 3 rfl) k) ?_
        refine x_go (pc' := 495) (st' := [.int (2 : Int32), .int x3, .ref b, .int x1097, .ref a2]) (fun hC _ _ _ _ _ _ hl k => lv_iconst (v := 2) hC.1 hC.2.1 d_L_law_494 (by decide) k) ?_
        refine x_go (pc' := 496) (st' := [.int (x3 + (2 : Int32)), .ref b, .int x1097, .ref a2]) (fun hC _ _ _ _ _ _ hl k => lv_iadd hC.1 hC.2.1 d_L_law_495 k) ?_
        refine x_sld hX hb (i := (x3 + (2 : Int32))) d_L_law_496 (fun x1098 => ?_)
        refine x_recv (ci := 4) (r := (some a2)) (fun b1101 _ eb1101 gb1101 => ?_)
        refine x_callI (rest := []) (c_M_look l B b1101 x1097 x1098 h1094) (fun hC => fun e1 e2 e3 e4 hM => fun hR hsz hc hs => run_V (n := 2) hC lw_good rfl rfl tw_465 tw_466 tw_467 tw_3 tw_468 (by decide) d_L_law_497 gb1101 (by rw [e1]; exact Nat.le_of_ble_eq_true rfl) (by rw [e2]; exact Nat.le_of_ble_eq_true rfl) e3 e4 hM hR hsz hc hs rfl (by cases eb1101; rfl) (Nat.le_of_ble_eq_true rfl)) (fun x1100 h1099 => ?_)
        refine x_go (pc' := 501) (st' := []) (fun hC _ _ _ _ _ _ hl k => lv_pop hC.1 hC.2.1 d_L_law_500 rfl k) ?_
        refine x_go (pc' := 573) (st' := []) (fun hC _ _ _ _ _ _ hl k => lv_goto (tgt := 573) hC.1 hC.2.1 d_L_law_501 (by decide) k) ?_
        refine x_lift (pc' := 576) (st' := []) (lv' := [(3, .int (x3 + (9))), (0, .ref b), (1, .ref a1), (2, .ref a2)]) (fun hC _ _ _ _ _ _ hl k => lv_iinc (v := (x3 + (9))) hC.1 hC.2.1 d_L_law_573 hl (k := 3) rfl rfl (by decide) rfl k) ?_
        refine x_go (pc' := 18) (st' := []) (fun hC _ _ _ _ _ _ hl k => lv_goto (tgt := 18) hC.1 hC.2.1 d_L_law_576 (by decide) k) ?_
        exact x_sub (lv' := [(0, .ref b), (1, .ref a1), (2, .ref a2), (3, .int (x3 + (9)))]) [1, 2, 3, 0] rfl (ih a1 a2 (x3 + (9)) h1099)
      refine x_split (P := (x1001 &&& (15 : Int32)) = 10) (fun ec => ?_) (fun ed10 => ?_)
      · refine x_go (pc' := 504) (st' := []) (fun hC _ _ _ _ _ _ hl k => lv_tableIn (tgt := 504) hC.1 hC.2.1 d_L_law_33 (by rw [ec]; decide) (by rw [ec]; decide) (by rw [ec]; rfl) (by decide) k) ?_
        refine x_go (pc' := 505) (st' := [.ref a1]) (fun hC _ _ _ _ _ _ hl k => lv_aload_n hC.1 hC.2.1 d_L_law_504 rfl (lv_at hl 1 rfl) k) ?_
        refine x_go (pc' := 506) (st' := [.ref b, .ref a1]) (fun hC _ _ _ _ _ _ hl k => lv_aload_n hC.1 hC.2.1 d_L_law_505 rfl (lv_at hl 0 rfl) k) ?_
        refine x_go (pc' := 507) (st' := [.int x3, .ref b, .ref a1]) (fun hC _ _ _ _ _ _ hl k => lv_iload_n hC.1 hC.2.1 d_L_law_506 rfl (lv_at hl 3 rfl) k) ?_
        refine x_go (pc' := 508) (st' := [.int (1 : Int32), .int x3, .ref b, .ref a1]) (fun hC _ _ _ _ _ _ hl k => lv_iconst (v := 1) hC.1 hC.2.1 d_L_law_507 (by decide) k) ?_
        refine x_go (pc' := 509) (st' := [.int (x3 + (1 : Int32)), .ref b, .ref a1]) (fun hC _ _ _ _ _ _ hl k => lv_iadd hC.1 hC.2.1 d_L_law_508 k) ?_
        refine x_sld hX hb (i := (x3 + (1 : Int32))) d_L_law_509 (fun x1102 => ?_)
        refine x_go (pc' := 511) (st' := [.ref b, .int x1102, .ref a1]) (fun hC _ _ _ _ _ _ hl k => lv_aload_n hC.1 hC.2.1 d_L_law_510 rfl (lv_at hl 0 rfl) k) ?_
        refine x_go (pc' := 512) (st' := [.int x3, .ref b, .int x1102, .ref a1]) (fun hC _ _ _ _ _ _ hl k => lv_iload_n hC.1 hC.2.1 d_L_law_511 rfl (lv_at hl 3 rfl) k) ?_
        refine x_go (pc' := 513) (st' := [.int (2 : Int32), .int x3, .ref b, .int x1102, .ref a1]) (fun hC _ _ _ _ _ _ hl k => lv_iconst (v := 2) hC.1 hC.2.1 d_L_law_512 (by decide) k) ?_
        refine x_go (pc' := 514) (st' := [.int (x3 + (2 : Int32)), .ref b, .int x1102, .ref a1]) (fun hC _ _ _ _ _ _ hl k => lv_iadd hC.1 hC.2.1 d_L_law_513 k) ?_
        refine x_sld hX hb (i := (x3 + (2 : Int32))) d_L_law_514 (fun x1103 => ?_)
        refine x_recv (ci := 3) (r := (some a1)) (fun b1106 _ eb1106 gb1106 => ?_)
        refine x_callI (rest := []) (c_D_arrow l B b1106 x1102 x1103 h) (fun hC => fun e1 e2 e3 e4 hM => fun hR hsz hc hs => run_V (n := 2) hC lw_good rfl rfl tw_296 tw_297 tw_298 tw_1 tw_299 (by decide) d_L_law_515 gb1106 (by rw [e1]; exact Nat.le_of_ble_eq_true rfl) (by rw [e2]; exact Nat.le_of_ble_eq_true rfl) e3 e4 hM hR hsz hc hs rfl (by cases eb1106; rfl) (Nat.le_of_ble_eq_true rfl)) (fun x1105 h1104 => ?_)
        refine x_go (pc' := 519) (st' := []) (fun hC _ _ _ _ _ _ hl k => lv_pop hC.1 hC.2.1 d_L_law_518 rfl k) ?_
        refine x_go (pc' := 520) (st' := [.ref a2]) (fun hC _ _ _ _ _ _ hl k => lv_aload_n hC.1 hC.2.1 d_L_law_519 rfl (lv_at hl 2 rfl) k) ?_
        refine x_go (pc' := 521) (st' := [.ref b, .ref a2]) (fun hC _ _ _ _ _ _ hl k => lv_aload_n hC.1 hC.2.1 d_L_law_520 rfl (lv_at hl 0 rfl) k) ?_
        refine x_go (pc' := 522) (st' := [.int x3, .ref b, .ref a2]) (fun hC _ _ _ _ _ _ hl k => lv_iload_n hC.1 hC.2.1 d_L_law_521 rfl (lv_at hl 3 rfl) k) ?_
        refine x_go (pc' := 523) (st' := [.int (1 : Int32), .int x3, .ref b, .ref a2]) (fun hC _ _ _ _ _ _ hl k => lv_iconst (v := 1) hC.1 hC.2.1 d_L_law_522 (by decide) k) ?_
        refine x_go (pc' := 524) (st' := [.int (x3 + (1 : Int32)), .ref b, .ref a2]) (fun hC _ _ _ _ _ _ hl k => lv_iadd hC.1 hC.2.1 d_L_law_523 k) ?_
        refine x_sld hX hb (i := (x3 + (1 : Int32))) d_L_law_524 (fun x1107 => ?_)
        refine x_go (pc' := 526) (st' := [.ref b, .int x1107, .ref a2]) (fun hC _ _ _ _ _ _ hl k => lv_aload_n hC.1 hC.2.1 d_L_law_525 rfl (lv_at hl 0 rfl) k) ?_
        refine x_go (pc' := 527) (st' := [.int x3, .ref b, .int x1107, .ref a2]) (fun hC _ _ _ _ _ _ hl k => lv_iload_n hC.1 hC.2.1 d_L_law_526 rfl (lv_at hl 3 rfl) k) ?_
        refine x_go (pc' := 528) (st' := [.int (2 : Int32), .int x3, .ref b, .int x1107, .ref a2]) (fun hC _ _ _ _ _ _ hl k => lv_iconst (v := 2) hC.1 hC.2.1 d_L_law_527 (by decide) k) ?_
        refine x_go (pc' := 529) (st' := [.int (x3 + (2 : Int32)), .ref b, .int x1107, .ref a2]) (fun hC _ _ _ _ _ _ hl k => lv_iadd hC.1 hC.2.1 d_L_law_528 k) ?_
        refine x_sld hX hb (i := (x3 + (2 : Int32))) d_L_law_529 (fun x1108 => ?_)
        refine x_recv (ci := 4) (r := (some a2)) (fun b1111 _ eb1111 gb1111 => ?_)
        refine x_callI (rest := []) (c_M_arrow l B b1111 x1107 x1108 h1104) (fun hC => fun e1 e2 e3 e4 hM => fun hR hsz hc hs => run_V (n := 2) hC lw_good rfl rfl tw_469 tw_470 tw_471 tw_3 tw_472 (by decide) d_L_law_530 gb1111 (by rw [e1]; exact Nat.le_of_ble_eq_true rfl) (by rw [e2]; exact Nat.le_of_ble_eq_true rfl) e3 e4 hM hR hsz hc hs rfl (by cases eb1111; rfl) (Nat.le_of_ble_eq_true rfl)) (fun x1110 h1109 => ?_)
        refine x_go (pc' := 534) (st' := []) (fun hC _ _ _ _ _ _ hl k => lv_pop hC.1 hC.2.1 d_L_law_533 rfl k) ?_
        refine x_go (pc' := 573) (st' := []) (fun hC _ _ _ _ _ _ hl k => lv_goto (tgt := 573) hC.1 hC.2.1 d_L_law_534 (by decide) k) ?_
        refine x_lift (pc' := 576) (st' := []) (lv' := [(3, .int (x3 + (9))), (0, .ref b), (1, .ref a1), (2, .ref a2)]) (fun hC _ _ _ _ _ _ hl k => lv_iinc (v := (x3 + (9))) hC.1 hC.2.1 d_L_law_573 hl (k := 3) rfl rfl (by decide) rfl k) ?_
        refine x_go (pc' := 18) (st' := []) (fun hC _ _ _ _ _ _ hl k => lv_goto (tgt := 18) hC.1 hC.2.1 d_L_law_576 (by decide) k) ?_
        exact x_sub (lv' := [(0, .ref b), (1, .ref a1), (2, .ref a2), (3, .int (x3 + (9)))]) [1, 2, 3, 0] rfl (ih a1 a2 (x3 + (9)) h1109)
      refine x_split (P := (x1001 &&& (15 : Int32)) = 11) (fun ec => ?_) (fun ed11 => ?_)
      · refine x_go (pc' := 537) (st' := []) (fun hC _ _ _ _ _ _ hl k => lv_tableIn (tgt := 537) hC.1 hC.2.1 d_L_law_33 (by rw [ec]; decide) (by rw [ec]; decide) (by rw [ec]; rfl) (by decide) k) ?_
        refine x_go (pc' := 538) (st' := [.ref a1]) (fun hC _ _ _ _ _ _ hl k => lv_aload_n hC.1 hC.2.1 d_L_law_537 rfl (lv_at hl 1 rfl) k) ?_
        refine x_recv (ci := 3) (r := (some a1)) (fun b1114 _ eb1114 gb1114 => ?_)
        refine x_callI (rest := []) (c_D_rings l B b1114 h) (fun hC => fun e1 e2 e3 e4 hM => fun hR hsz hc hs => run_V (n := 0) hC lw_good rfl rfl tw_300 tw_301 tw_302 tw_1 tw_303 (by decide) d_L_law_538 gb1114 (by rw [e1]; exact Nat.le_of_ble_eq_true rfl) (by rw [e2]; exact Nat.le_of_ble_eq_true rfl) e3 e4 hM hR hsz hc hs rfl (by cases eb1114; rfl) (Nat.le_of_ble_eq_true rfl)) (fun x1113 h1112 => ?_)
        refine x_go (pc' := 542) (st' := []) (fun hC _ _ _ _ _ _ hl k => lv_pop hC.1 hC.2.1 d_L_law_541 rfl k) ?_
        refine x_go (pc' := 543) (st' := [.ref a2]) (fun hC _ _ _ _ _ _ hl k => lv_aload_n hC.1 hC.2.1 d_L_law_542 rfl (lv_at hl 2 rfl) k) ?_
        refine x_recv (ci := 4) (r := (some a2)) (fun b1117 _ eb1117 gb1117 => ?_)
        refine x_callI (rest := []) (c_M_rings l B b1117 h1112) (fun hC => fun e1 e2 e3 e4 hM => fun hR hsz hc hs => run_V (n := 0) hC lw_good rfl rfl tw_473 tw_474 tw_475 tw_3 tw_476 (by decide) d_L_law_543 gb1117 (by rw [e1]; exact Nat.le_of_ble_eq_true rfl) (by rw [e2]; exact Nat.le_of_ble_eq_true rfl) e3 e4 hM hR hsz hc hs rfl (by cases eb1117; rfl) (Nat.le_of_ble_eq_true rfl)) (fun x1116 h1115 => ?_)
        refine x_go (pc' := 547) (st' := []) (fun hC _ _ _ _ _ _ hl k => lv_pop hC.1 hC.2.1 d_L_law_546 rfl k) ?_
        refine x_go (pc' := 573) (st' := []) (fun hC _ _ _ _ _ _ hl k => lv_goto (tgt := 573) hC.1 hC.2.1 d_L_law_547 (by decide) k) ?_
        refine x_lift (pc' := 576) (st' := []) (lv' := [(3, .int (x3 + (9))), (0, .ref b), (1, .ref a1), (2, .ref a2)]) (fun hC _ _ _ _ _ _ hl k => lv_iinc (v := (x3 + (9))) hC.1 hC.2.1 d_L_law_573 hl (k := 3) rfl rfl (by decide) rfl k) ?_
        refine x_go (pc' := 18) (st' := []) (fun hC _ _ _ _ _ _ hl k => lv_goto (tgt := 18) hC.1 hC.2.1 d_L_law_576 (by decide) k) ?_
        exact x_sub (lv' := [(0, .ref b), (1, .ref a1), (2, .ref a2), (3, .int (x3 + (9)))]) [1, 2, 3, 0] rfl (ih a1 a2 (x3 + (9)) h1115)
      refine x_split (P := (x1001 &&& (15 : Int32)) = 12) (fun ec => ?_) (fun ed12 => ?_)
      · refine x_go (pc' := 550) (st' := []) (fun hC _ _ _ _ _ _ hl k => lv_tableIn (tgt := 550) hC.1 hC.2.1 d_L_law_33 (by rw [ec]; decide) (by rw [ec]; decide) (by rw [ec]; rfl) (by decide) k) ?_
        refine x_go (pc' := 551) (st' := [.ref a1]) (fun hC _ _ _ _ _ _ hl k => lv_aload_n hC.1 hC.2.1 d_L_law_550 rfl (lv_at hl 1 rfl) k) ?_
        refine x_go (pc' := 552) (st' := [.ref b, .ref a1]) (fun hC _ _ _ _ _ _ hl k => lv_aload_n hC.1 hC.2.1 d_L_law_551 rfl (lv_at hl 0 rfl) k) ?_
        refine x_go (pc' := 553) (st' := [.int x3, .ref b, .ref a1]) (fun hC _ _ _ _ _ _ hl k => lv_iload_n hC.1 hC.2.1 d_L_law_552 rfl (lv_at hl 3 rfl) k) ?_
        refine x_go (pc' := 554) (st' := [.int (1 : Int32), .int x3, .ref b, .ref a1]) (fun hC _ _ _ _ _ _ hl k => lv_iconst (v := 1) hC.1 hC.2.1 d_L_law_553 (by decide) k) ?_
        refine x_go (pc' := 555) (st' := [.int (x3 + (1 : Int32)), .ref b, .ref a1]) (fun hC _ _ _ _ _ _ hl k => lv_iadd hC.1 hC.2.1 d_L_law_554 k) ?_
        refine x_sld hX hb (i := (x3 + (1 : Int32))) d_L_law_555 (fun x1118 => ?_)
        refine x_recv (ci := 3) (r := (some a1)) (fun b1121 _ eb1121 gb1121 => ?_)
        refine x_callI (rest := []) (c_D_count l B b1121 x1118 h) (fun hC => fun e1 e2 e3 e4 hM => fun hR hsz hc hs => run_V (n := 1) hC lw_good rfl rfl tw_304 tw_305 tw_306 tw_1 tw_307 (by decide) d_L_law_556 gb1121 (by rw [e1]; exact Nat.le_of_ble_eq_true rfl) (by rw [e2]; exact Nat.le_of_ble_eq_true rfl) e3 e4 hM hR hsz hc hs rfl (by cases eb1121; rfl) (Nat.le_of_ble_eq_true rfl)) (fun x1120 h1119 => ?_)
        refine x_go (pc' := 560) (st' := []) (fun hC _ _ _ _ _ _ hl k => lv_pop hC.1 hC.2.1 d_L_law_559 rfl k) ?_
        refine x_go (pc' := 561) (st' := [.ref a2]) (fun hC _ _ _ _ _ _ hl k => lv_aload_n hC.1 hC.2.1 d_L_law_560 rfl (lv_at hl 2 rfl) k) ?_
        refine x_go (pc' := 562) (st' := [.ref b, .ref a2]) (fun hC _ _ _ _ _ _ hl k => lv_aload_n hC.1 hC.2.1 d_L_law_561 rfl (lv_at hl 0 rfl) k) ?_
        refine x_go (pc' := 563) (st' := [.int x3, .ref b, .ref a2]) (fun hC _ _ _ _ _ _ hl k => lv_iload_n hC.1 hC.2.1 d_L_law_562 rfl (lv_at hl 3 rfl) k) ?_
        refine x_go (pc' := 564) (st' := [.int (1 : Int32), .int x3, .ref b, .ref a2]) (fun hC _ _ _ _ _ _ hl k => lv_iconst (v := 1) hC.1 hC.2.1 d_L_law_563 (by decide) k) ?_
        refine x_go (pc' := 565) (st' := [.int (x3 + (1 : Int32)), .ref b, .ref a2]) (fun hC _ _ _ _ _ _ hl k => lv_iadd hC.1 hC.2.1 d_L_law_564 k) ?_
        refine x_sld hX hb (i := (x3 + (1 : Int32))) d_L_law_565 (fun x1122 => ?_)
        refine x_recv (ci := 4) (r := (some a2)) (fun b1125 _ eb1125 gb1125 => ?_)
        refine x_callI (rest := []) (c_M_count l B b1125 x1122 h1119) (fun hC => fun e1 e2 e3 e4 hM => fun hR hsz hc hs => run_V (n := 1) hC lw_good rfl rfl tw_485 tw_486 tw_487 tw_3 tw_488 (by decide) d_L_law_566 gb1125 (by rw [e1]; exact Nat.le_of_ble_eq_true rfl) (by rw [e2]; exact Nat.le_of_ble_eq_true rfl) e3 e4 hM hR hsz hc hs rfl (by cases eb1125; rfl) (Nat.le_of_ble_eq_true rfl)) (fun x1124 h1123 => ?_)
        refine x_go (pc' := 570) (st' := []) (fun hC _ _ _ _ _ _ hl k => lv_pop hC.1 hC.2.1 d_L_law_569 rfl k) ?_
        refine x_go (pc' := 573) (st' := []) (fun hC _ _ _ _ _ _ hl k => lv_goto (tgt := 573) hC.1 hC.2.1 d_L_law_570 (by decide) k) ?_
        refine x_lift (pc' := 576) (st' := []) (lv' := [(3, .int (x3 + (9))), (0, .ref b), (1, .ref a1), (2, .ref a2)]) (fun hC _ _ _ _ _ _ hl k => lv_iinc (v := (x3 + (9))) hC.1 hC.2.1 d_L_law_573 hl (k := 3) rfl rfl (by decide) rfl k) ?_
        refine x_go (pc' := 18) (st' := []) (fun hC _ _ _ _ _ _ hl k => lv_goto (tgt := 18) hC.1 hC.2.1 d_L_law_576 (by decide) k) ?_
        exact x_sub (lv' := [(0, .ref b), (1, .ref a1), (2, .ref a2), (3, .int (x3 + (9)))]) [1, 2, 3, 0] rfl (ih a1 a2 (x3 + (9)) h1123)
      refine x_go (pc' := 573) (st' := []) (fun hC _ _ _ _ _ _ hl k => lv_tableOut (tgt := 573) hC.1 hC.2.1 d_L_law_33 (by have := lv_neT (a := 0) ed0 (by decide); have := lv_neT (a := 1) ed1 (by decide); have := lv_neT (a := 2) ed2 (by decide); have := lv_neT (a := 3) ed3 (by decide); have := lv_neT (a := 4) ed4 (by decide); have := lv_neT (a := 5) ed5 (by decide); have := lv_neT (a := 6) ed6 (by decide); have := lv_neT (a := 7) ed7 (by decide); have := lv_neT (a := 8) ed8 (by decide); have := lv_neT (a := 9) ed9 (by decide); have := lv_neT (a := 10) ed10 (by decide); have := lv_neT (a := 11) ed11 (by decide); have := lv_neT (a := 12) ed12 (by decide); omega) (by decide) k) ?_
      refine x_lift (pc' := 576) (st' := []) (lv' := [(3, .int (x3 + (9))), (0, .ref b), (1, .ref a1), (2, .ref a2)]) (fun hC _ _ _ _ _ _ hl k => lv_iinc (v := (x3 + (9))) hC.1 hC.2.1 d_L_law_573 hl (k := 3) rfl rfl (by decide) rfl k) ?_
      refine x_go (pc' := 18) (st' := []) (fun hC _ _ _ _ _ _ hl k => lv_goto (tgt := 18) hC.1 hC.2.1 d_L_law_576 (by decide) k) ?_
      exact x_sub (lv' := [(0, .ref b), (1, .ref a1), (2, .ref a2), (3, .int (x3 + (9)))]) [1, 2, 3, 0] rfl (ih a1 a2 (x3 + (9)) h)
set_option maxHeartbeats 4000000 in
set_option maxRecDepth 100000 in
theorem x_L_law {p : Program} {l : Launch} {e : Env} {s : State} {m : MethodId} {below : List Frame} {meth : Method} {c : Code} {B : AB} {n0 m0 : Nat} {b L : Nat} {xs : Nat → Int32} (hX : va_X b L xs s B.2.2.2) (hb : b < B.2.2.1) (hB : B.2.2.1 = s.heap.size) (h : AH) : X_L_law p l e s m below meth c B n0 m0 b h 0 [(0, .ref b)] [] (f_L_law L xs h) := by
  unfold f_L_law
  refine x_new (ci := 3) (fs := [.null, .null, .null, .int 0, .int 0, .int 0]) iw_3 ft_3 ft_3_ok tw_6 tw_7 tw_1 rfl rfl (by decide) d_L_law_0 (fun a101 h102 => ?_)
  refine x_go (pc' := 4) (st' := [.ref a101, .ref a101]) (fun hC _ _ _ _ _ _ hl k => lv_dup hC.1 hC.2.1 d_L_law_3 rfl k) ?_
  refine x_callU (rest := [.ref a101]) (c_D_init l B a101 h102) (fun hC => fun e1 e2 e3 e4 hM => fun hR hsz hc hs => run_I (n := 0) hC lw_good tw_8 tw_9 tw_1 tw_10 rfl (by decide) d_L_law_4 (by rw [e1]; exact Nat.le_of_ble_eq_true rfl) (by rw [e2]; exact Nat.le_of_ble_eq_true rfl) e3 e4 hM hR hsz hc hs rfl rfl (Nat.le_of_ble_eq_true rfl)) (fun h103 => ?_)
  refine x_lift (pc' := 8) (st' := []) (lv' := [(1, .ref a101), (0, .ref b)]) (fun hC _ _ _ _ _ _ hl k => lv_astore_n (i := 1) hC.1 hC.2.1 d_L_law_7 rfl hl (by decide) rfl k) ?_
  refine x_new (ci := 4) (fs := [.int 0, .int 0, .int 0, .null, .null, .null, .null, .null, .null, .null, .null, .null, .null, .null, .null, .null, .null, .null, .null, .null, .null, .null]) iw_4 ft_4 ft_4_ok tw_308 tw_309 tw_3 rfl rfl (by decide) d_L_law_8 (fun a104 h105 => ?_)
  refine x_go (pc' := 12) (st' := [.ref a104, .ref a104]) (fun hC _ _ _ _ _ _ hl k => lv_dup hC.1 hC.2.1 d_L_law_11 rfl k) ?_
  refine x_callU (rest := [.ref a104]) (c_M_init l B a104 h105) (fun hC => fun e1 e2 e3 e4 hM => fun hR hsz hc hs => run_I (n := 0) hC lw_good tw_310 tw_311 tw_3 tw_312 rfl (by decide) d_L_law_12 (by rw [e1]; exact Nat.le_of_ble_eq_true rfl) (by rw [e2]; exact Nat.le_of_ble_eq_true rfl) e3 e4 hM hR hsz hc hs rfl rfl (Nat.le_of_ble_eq_true rfl)) (fun h106 => ?_)
  refine x_lift (pc' := 16) (st' := []) (lv' := [(2, .ref a104), (1, .ref a101), (0, .ref b)]) (fun hC _ _ _ _ _ _ hl k => lv_astore_n (i := 2) hC.1 hC.2.1 d_L_law_15 rfl hl (by decide) rfl k) ?_
  refine x_go (pc' := 17) (st' := [.int (0 : Int32)]) (fun hC _ _ _ _ _ _ hl k => lv_iconst (v := 0) hC.1 hC.2.1 d_L_law_16 (by decide) k) ?_
  refine x_lift (pc' := 18) (st' := []) (lv' := [(3, .int (0 : Int32)), (2, .ref a104), (1, .ref a101), (0, .ref b)]) (fun hC _ _ _ _ _ _ hl k => lv_istore_n (i := 3) hC.1 hC.2.1 d_L_law_17 rfl hl (by decide) rfl k) ?_
  exact x_sub (lv' := [(0, .ref b), (1, .ref a101), (2, .ref a104), (3, .int (0 : Int32))]) [3, 2, 1, 0] rfl (x_L_law_b18 hX hb hB 2000 a101 a104 (0 : Int32) h106)
