theorem d_LW_law_0 : decode code 0 = .ok (.new 7, 3) := by decide +kernel
theorem d_LW_law_3 : decode code 3 = .ok (.dup, 1) := by decide +kernel
theorem d_LW_law_4 : decode code 4 = .ok (.invokespecial 9, 3) := by decide +kernel
theorem d_LW_law_7 : decode code 7 = .ok (.astore_n 1, 1) := by decide +kernel
theorem d_LW_law_8 : decode code 8 = .ok (.new 10, 3) := by decide +kernel
theorem d_LW_law_11 : decode code 11 = .ok (.dup, 1) := by decide +kernel
theorem d_LW_law_12 : decode code 12 = .ok (.invokespecial 12, 3) := by decide +kernel
theorem d_LW_law_15 : decode code 15 = .ok (.astore_n 2, 1) := by decide +kernel
theorem d_LW_law_16 : decode code 16 = .ok (.iconst 0, 1) := by decide +kernel
theorem d_LW_law_17 : decode code 17 = .ok (.istore_n 3, 1) := by decide +kernel
theorem d_LW_law_18 : decode code 18 = .ok (.iload_n 3, 1) := by decide +kernel
theorem d_LW_law_19 : decode code 19 = .ok (.aload_n 0, 1) := by decide +kernel
theorem d_LW_law_20 : decode code 20 = .ok (.arraylength, 1) := by decide +kernel
theorem d_LW_law_21 : decode code 21 = .ok (.bipush 6, 2) := by decide +kernel
theorem d_LW_law_23 : decode code 23 = .ok (.isub, 1) := by decide +kernel
theorem d_LW_law_24 : decode code 24 = .ok (.if_icmp .gt 696, 3) := by decide +kernel
theorem d_LW_law_27 : decode code 27 = .ok (.aload_n 0, 1) := by decide +kernel
theorem d_LW_law_28 : decode code 28 = .ok (.iload_n 3, 1) := by decide +kernel
theorem d_LW_law_29 : decode code 29 = .ok (.iaload, 1) := by decide +kernel
theorem d_LW_law_30 : decode code 30 = .ok (.bipush 31, 2) := by decide +kernel
theorem d_LW_law_32 : decode code 32 = .ok (.iand, 1) := by decide +kernel
theorem d_LW_law_33 : decode code 33 = .ok (.tableswitch 681 0 18 #[91, 154, 203, 238, 249, 348, 381, 394, 417, 440, 463, 486, 509, 532, 565, 598, 622, 645, 668], 91) := by decide +kernel
theorem d_LW_law_124 : decode code 124 = .ok (.aload_n 1, 1) := by decide +kernel
theorem d_LW_law_125 : decode code 125 = .ok (.aload_n 0, 1) := by decide +kernel
theorem d_LW_law_126 : decode code 126 = .ok (.iload_n 3, 1) := by decide +kernel
theorem d_LW_law_127 : decode code 127 = .ok (.iconst 1, 1) := by decide +kernel
theorem d_LW_law_128 : decode code 128 = .ok (.iadd, 1) := by decide +kernel
theorem d_LW_law_129 : decode code 129 = .ok (.iaload, 1) := by decide +kernel
theorem d_LW_law_130 : decode code 130 = .ok (.aload_n 0, 1) := by decide +kernel
theorem d_LW_law_131 : decode code 131 = .ok (.iload_n 3, 1) := by decide +kernel
theorem d_LW_law_132 : decode code 132 = .ok (.iconst 2, 1) := by decide +kernel
theorem d_LW_law_133 : decode code 133 = .ok (.iadd, 1) := by decide +kernel
theorem d_LW_law_134 : decode code 134 = .ok (.iaload, 1) := by decide +kernel
theorem d_LW_law_135 : decode code 135 = .ok (.i2l, 1) := by decide +kernel
theorem d_LW_law_136 : decode code 136 = .ok (.bipush 32, 2) := by decide +kernel
theorem d_LW_law_138 : decode code 138 = .ok (.lshl, 1) := by decide +kernel
theorem d_LW_law_139 : decode code 139 = .ok (.aload_n 0, 1) := by decide +kernel
theorem d_LW_law_140 : decode code 140 = .ok (.iload_n 3, 1) := by decide +kernel
theorem d_LW_law_141 : decode code 141 = .ok (.iconst 3, 1) := by decide +kernel
theorem d_LW_law_142 : decode code 142 = .ok (.iadd, 1) := by decide +kernel
theorem d_LW_law_143 : decode code 143 = .ok (.iaload, 1) := by decide +kernel
theorem d_LW_law_144 : decode code 144 = .ok (.i2l, 1) := by decide +kernel
theorem d_LW_law_145 : decode code 145 = .ok (.ldc2_w 13, 3) := by decide +kernel
theorem d_LW_law_148 : decode code 148 = .ok (.land, 1) := by decide +kernel
theorem d_LW_law_149 : decode code 149 = .ok (.lor, 1) := by decide +kernel
theorem d_LW_law_150 : decode code 150 = .ok (.invokevirtual 15, 3) := by decide +kernel
theorem d_LW_law_153 : decode code 153 = .ok (.aload_n 2, 1) := by decide +kernel
theorem d_LW_law_154 : decode code 154 = .ok (.aload_n 0, 1) := by decide +kernel
theorem d_LW_law_155 : decode code 155 = .ok (.iload_n 3, 1) := by decide +kernel
theorem d_LW_law_156 : decode code 156 = .ok (.iconst 1, 1) := by decide +kernel
theorem d_LW_law_157 : decode code 157 = .ok (.iadd, 1) := by decide +kernel
theorem d_LW_law_158 : decode code 158 = .ok (.iaload, 1) := by decide +kernel
theorem d_LW_law_159 : decode code 159 = .ok (.aload_n 0, 1) := by decide +kernel
theorem d_LW_law_160 : decode code 160 = .ok (.iload_n 3, 1) := by decide +kernel
theorem d_LW_law_161 : decode code 161 = .ok (.iconst 2, 1) := by decide +kernel
theorem d_LW_law_162 : decode code 162 = .ok (.iadd, 1) := by decide +kernel
theorem d_LW_law_163 : decode code 163 = .ok (.iaload, 1) := by decide +kernel
theorem d_LW_law_164 : decode code 164 = .ok (.i2l, 1) := by decide +kernel
theorem d_LW_law_165 : decode code 165 = .ok (.bipush 32, 2) := by decide +kernel
theorem d_LW_law_167 : decode code 167 = .ok (.lshl, 1) := by decide +kernel
theorem d_LW_law_168 : decode code 168 = .ok (.aload_n 0, 1) := by decide +kernel
theorem d_LW_law_169 : decode code 169 = .ok (.iload_n 3, 1) := by decide +kernel
theorem d_LW_law_170 : decode code 170 = .ok (.iconst 3, 1) := by decide +kernel
theorem d_LW_law_171 : decode code 171 = .ok (.iadd, 1) := by decide +kernel
theorem d_LW_law_172 : decode code 172 = .ok (.iaload, 1) := by decide +kernel
theorem d_LW_law_173 : decode code 173 = .ok (.i2l, 1) := by decide +kernel
theorem d_LW_law_174 : decode code 174 = .ok (.ldc2_w 13, 3) := by decide +kernel
theorem d_LW_law_177 : decode code 177 = .ok (.land, 1) := by decide +kernel
theorem d_LW_law_178 : decode code 178 = .ok (.lor, 1) := by decide +kernel
theorem d_LW_law_179 : decode code 179 = .ok (.invokevirtual 19, 3) := by decide +kernel
theorem d_LW_law_182 : decode code 182 = .ok (.if_icmp .eq 532, 3) := by decide +kernel
theorem d_LW_law_185 : decode code 185 = .ok (.iconst 0, 1) := by decide +kernel
theorem d_LW_law_186 : decode code 186 = .ok (.ireturn, 1) := by decide +kernel
theorem d_LW_law_187 : decode code 187 = .ok (.aload_n 1, 1) := by decide +kernel
theorem d_LW_law_188 : decode code 188 = .ok (.aload_n 0, 1) := by decide +kernel
theorem d_LW_law_189 : decode code 189 = .ok (.iload_n 3, 1) := by decide +kernel
theorem d_LW_law_190 : decode code 190 = .ok (.iconst 1, 1) := by decide +kernel
theorem d_LW_law_191 : decode code 191 = .ok (.iadd, 1) := by decide +kernel
theorem d_LW_law_192 : decode code 192 = .ok (.iaload, 1) := by decide +kernel
theorem d_LW_law_193 : decode code 193 = .ok (.aload_n 0, 1) := by decide +kernel
theorem d_LW_law_194 : decode code 194 = .ok (.iload_n 3, 1) := by decide +kernel
theorem d_LW_law_195 : decode code 195 = .ok (.iconst 2, 1) := by decide +kernel
theorem d_LW_law_196 : decode code 196 = .ok (.iadd, 1) := by decide +kernel
theorem d_LW_law_197 : decode code 197 = .ok (.iaload, 1) := by decide +kernel
theorem d_LW_law_198 : decode code 198 = .ok (.ifCond .eq 7, 3) := by decide +kernel
theorem d_LW_law_201 : decode code 201 = .ok (.iconst 1, 1) := by decide +kernel
theorem d_LW_law_202 : decode code 202 = .ok (.goto 4, 3) := by decide +kernel
theorem d_LW_law_205 : decode code 205 = .ok (.iconst 0, 1) := by decide +kernel
theorem d_LW_law_206 : decode code 206 = .ok (.invokevirtual 20, 3) := by decide +kernel
theorem d_LW_law_209 : decode code 209 = .ok (.aload_n 2, 1) := by decide +kernel
theorem d_LW_law_210 : decode code 210 = .ok (.aload_n 0, 1) := by decide +kernel
theorem d_LW_law_211 : decode code 211 = .ok (.iload_n 3, 1) := by decide +kernel
theorem d_LW_law_212 : decode code 212 = .ok (.iconst 1, 1) := by decide +kernel
theorem d_LW_law_213 : decode code 213 = .ok (.iadd, 1) := by decide +kernel
theorem d_LW_law_214 : decode code 214 = .ok (.iaload, 1) := by decide +kernel
theorem d_LW_law_215 : decode code 215 = .ok (.aload_n 0, 1) := by decide +kernel
theorem d_LW_law_216 : decode code 216 = .ok (.iload_n 3, 1) := by decide +kernel
theorem d_LW_law_217 : decode code 217 = .ok (.iconst 2, 1) := by decide +kernel
theorem d_LW_law_218 : decode code 218 = .ok (.iadd, 1) := by decide +kernel
theorem d_LW_law_219 : decode code 219 = .ok (.iaload, 1) := by decide +kernel
theorem d_LW_law_220 : decode code 220 = .ok (.ifCond .eq 7, 3) := by decide +kernel
theorem d_LW_law_223 : decode code 223 = .ok (.iconst 1, 1) := by decide +kernel
theorem d_LW_law_224 : decode code 224 = .ok (.goto 4, 3) := by decide +kernel
theorem d_LW_law_227 : decode code 227 = .ok (.iconst 0, 1) := by decide +kernel
theorem d_LW_law_228 : decode code 228 = .ok (.invokevirtual 24, 3) := by decide +kernel
theorem d_LW_law_231 : decode code 231 = .ok (.if_icmp .eq 483, 3) := by decide +kernel
theorem d_LW_law_234 : decode code 234 = .ok (.iconst 0, 1) := by decide +kernel
theorem d_LW_law_235 : decode code 235 = .ok (.ireturn, 1) := by decide +kernel
theorem d_LW_law_236 : decode code 236 = .ok (.aload_n 1, 1) := by decide +kernel
theorem d_LW_law_237 : decode code 237 = .ok (.aload_n 0, 1) := by decide +kernel
theorem d_LW_law_238 : decode code 238 = .ok (.iload_n 3, 1) := by decide +kernel
theorem d_LW_law_239 : decode code 239 = .ok (.iconst 1, 1) := by decide +kernel
theorem d_LW_law_240 : decode code 240 = .ok (.iadd, 1) := by decide +kernel
theorem d_LW_law_241 : decode code 241 = .ok (.iaload, 1) := by decide +kernel
theorem d_LW_law_242 : decode code 242 = .ok (.i2c, 1) := by decide +kernel
theorem d_LW_law_243 : decode code 243 = .ok (.aload_n 0, 1) := by decide +kernel
theorem d_LW_law_244 : decode code 244 = .ok (.iload_n 3, 1) := by decide +kernel
theorem d_LW_law_245 : decode code 245 = .ok (.iconst 2, 1) := by decide +kernel
theorem d_LW_law_246 : decode code 246 = .ok (.iadd, 1) := by decide +kernel
theorem d_LW_law_247 : decode code 247 = .ok (.iaload, 1) := by decide +kernel
theorem d_LW_law_248 : decode code 248 = .ok (.invokevirtual 25, 3) := by decide +kernel
theorem d_LW_law_251 : decode code 251 = .ok (.aload_n 2, 1) := by decide +kernel
theorem d_LW_law_252 : decode code 252 = .ok (.aload_n 0, 1) := by decide +kernel
theorem d_LW_law_253 : decode code 253 = .ok (.iload_n 3, 1) := by decide +kernel
theorem d_LW_law_254 : decode code 254 = .ok (.iconst 1, 1) := by decide +kernel
theorem d_LW_law_255 : decode code 255 = .ok (.iadd, 1) := by decide +kernel
theorem d_LW_law_256 : decode code 256 = .ok (.iaload, 1) := by decide +kernel
theorem d_LW_law_257 : decode code 257 = .ok (.i2c, 1) := by decide +kernel
theorem d_LW_law_258 : decode code 258 = .ok (.aload_n 0, 1) := by decide +kernel
theorem d_LW_law_259 : decode code 259 = .ok (.iload_n 3, 1) := by decide +kernel
theorem d_LW_law_260 : decode code 260 = .ok (.iconst 2, 1) := by decide +kernel
theorem d_LW_law_261 : decode code 261 = .ok (.iadd, 1) := by decide +kernel
theorem d_LW_law_262 : decode code 262 = .ok (.iaload, 1) := by decide +kernel
theorem d_LW_law_263 : decode code 263 = .ok (.invokevirtual 29, 3) := by decide +kernel
theorem d_LW_law_266 : decode code 266 = .ok (.if_icmp .eq 448, 3) := by decide +kernel
theorem d_LW_law_269 : decode code 269 = .ok (.iconst 0, 1) := by decide +kernel
theorem d_LW_law_270 : decode code 270 = .ok (.ireturn, 1) := by decide +kernel
theorem d_LW_law_271 : decode code 271 = .ok (.aload_n 1, 1) := by decide +kernel
theorem d_LW_law_272 : decode code 272 = .ok (.invokevirtual 30, 3) := by decide +kernel
theorem d_LW_law_275 : decode code 275 = .ok (.aload_n 2, 1) := by decide +kernel
theorem d_LW_law_276 : decode code 276 = .ok (.invokevirtual 33, 3) := by decide +kernel
theorem d_LW_law_279 : decode code 279 = .ok (.goto 435, 3) := by decide +kernel
theorem d_LW_law_282 : decode code 282 = .ok (.aload_n 1, 1) := by decide +kernel
theorem d_LW_law_283 : decode code 283 = .ok (.aload_n 0, 1) := by decide +kernel
theorem d_LW_law_284 : decode code 284 = .ok (.iload_n 3, 1) := by decide +kernel
theorem d_LW_law_285 : decode code 285 = .ok (.iconst 1, 1) := by decide +kernel
theorem d_LW_law_286 : decode code 286 = .ok (.iadd, 1) := by decide +kernel
theorem d_LW_law_287 : decode code 287 = .ok (.iaload, 1) := by decide +kernel
theorem d_LW_law_288 : decode code 288 = .ok (.aload_n 0, 1) := by decide +kernel
theorem d_LW_law_289 : decode code 289 = .ok (.iload_n 3, 1) := by decide +kernel
theorem d_LW_law_290 : decode code 290 = .ok (.iconst 2, 1) := by decide +kernel
theorem d_LW_law_291 : decode code 291 = .ok (.iadd, 1) := by decide +kernel
theorem d_LW_law_292 : decode code 292 = .ok (.iaload, 1) := by decide +kernel
theorem d_LW_law_293 : decode code 293 = .ok (.i2l, 1) := by decide +kernel
theorem d_LW_law_294 : decode code 294 = .ok (.bipush 32, 2) := by decide +kernel
theorem d_LW_law_296 : decode code 296 = .ok (.lshl, 1) := by decide +kernel
theorem d_LW_law_297 : decode code 297 = .ok (.aload_n 0, 1) := by decide +kernel
theorem d_LW_law_298 : decode code 298 = .ok (.iload_n 3, 1) := by decide +kernel
theorem d_LW_law_299 : decode code 299 = .ok (.iconst 3, 1) := by decide +kernel
theorem d_LW_law_300 : decode code 300 = .ok (.iadd, 1) := by decide +kernel
theorem d_LW_law_301 : decode code 301 = .ok (.iaload, 1) := by decide +kernel
theorem d_LW_law_302 : decode code 302 = .ok (.i2l, 1) := by decide +kernel
theorem d_LW_law_303 : decode code 303 = .ok (.ldc2_w 13, 3) := by decide +kernel
theorem d_LW_law_306 : decode code 306 = .ok (.land, 1) := by decide +kernel
theorem d_LW_law_307 : decode code 307 = .ok (.lor, 1) := by decide +kernel
theorem d_LW_law_308 : decode code 308 = .ok (.aload_n 0, 1) := by decide +kernel
theorem d_LW_law_309 : decode code 309 = .ok (.iload_n 3, 1) := by decide +kernel
theorem d_LW_law_310 : decode code 310 = .ok (.iconst 4, 1) := by decide +kernel
theorem d_LW_law_311 : decode code 311 = .ok (.iadd, 1) := by decide +kernel
theorem d_LW_law_312 : decode code 312 = .ok (.iaload, 1) := by decide +kernel
theorem d_LW_law_313 : decode code 313 = .ok (.aload_n 0, 1) := by decide +kernel
theorem d_LW_law_314 : decode code 314 = .ok (.iload_n 3, 1) := by decide +kernel
theorem d_LW_law_315 : decode code 315 = .ok (.iconst 5, 1) := by decide +kernel
theorem d_LW_law_316 : decode code 316 = .ok (.iadd, 1) := by decide +kernel
theorem d_LW_law_317 : decode code 317 = .ok (.iaload, 1) := by decide +kernel
theorem d_LW_law_318 : decode code 318 = .ok (.ifCond .eq 7, 3) := by decide +kernel
theorem d_LW_law_321 : decode code 321 = .ok (.iconst 1, 1) := by decide +kernel
theorem d_LW_law_322 : decode code 322 = .ok (.goto 4, 3) := by decide +kernel
theorem d_LW_law_325 : decode code 325 = .ok (.iconst 0, 1) := by decide +kernel
theorem d_LW_law_326 : decode code 326 = .ok (.invokevirtual 34, 3) := by decide +kernel
theorem d_LW_law_329 : decode code 329 = .ok (.aload_n 2, 1) := by decide +kernel
theorem d_LW_law_330 : decode code 330 = .ok (.aload_n 0, 1) := by decide +kernel
theorem d_LW_law_331 : decode code 331 = .ok (.iload_n 3, 1) := by decide +kernel
theorem d_LW_law_332 : decode code 332 = .ok (.iconst 1, 1) := by decide +kernel
theorem d_LW_law_333 : decode code 333 = .ok (.iadd, 1) := by decide +kernel
theorem d_LW_law_334 : decode code 334 = .ok (.iaload, 1) := by decide +kernel
theorem d_LW_law_335 : decode code 335 = .ok (.aload_n 0, 1) := by decide +kernel
theorem d_LW_law_336 : decode code 336 = .ok (.iload_n 3, 1) := by decide +kernel
theorem d_LW_law_337 : decode code 337 = .ok (.iconst 2, 1) := by decide +kernel
theorem d_LW_law_338 : decode code 338 = .ok (.iadd, 1) := by decide +kernel
theorem d_LW_law_339 : decode code 339 = .ok (.iaload, 1) := by decide +kernel
theorem d_LW_law_340 : decode code 340 = .ok (.i2l, 1) := by decide +kernel
theorem d_LW_law_341 : decode code 341 = .ok (.bipush 32, 2) := by decide +kernel
theorem d_LW_law_343 : decode code 343 = .ok (.lshl, 1) := by decide +kernel
theorem d_LW_law_344 : decode code 344 = .ok (.aload_n 0, 1) := by decide +kernel
theorem d_LW_law_345 : decode code 345 = .ok (.iload_n 3, 1) := by decide +kernel
theorem d_LW_law_346 : decode code 346 = .ok (.iconst 3, 1) := by decide +kernel
theorem d_LW_law_347 : decode code 347 = .ok (.iadd, 1) := by decide +kernel
theorem d_LW_law_348 : decode code 348 = .ok (.iaload, 1) := by decide +kernel
theorem d_LW_law_349 : decode code 349 = .ok (.i2l, 1) := by decide +kernel
theorem d_LW_law_350 : decode code 350 = .ok (.ldc2_w 13, 3) := by decide +kernel
theorem d_LW_law_353 : decode code 353 = .ok (.land, 1) := by decide +kernel
theorem d_LW_law_354 : decode code 354 = .ok (.lor, 1) := by decide +kernel
theorem d_LW_law_355 : decode code 355 = .ok (.aload_n 0, 1) := by decide +kernel
theorem d_LW_law_356 : decode code 356 = .ok (.iload_n 3, 1) := by decide +kernel
theorem d_LW_law_357 : decode code 357 = .ok (.iconst 4, 1) := by decide +kernel
theorem d_LW_law_358 : decode code 358 = .ok (.iadd, 1) := by decide +kernel
theorem d_LW_law_359 : decode code 359 = .ok (.iaload, 1) := by decide +kernel
theorem d_LW_law_360 : decode code 360 = .ok (.aload_n 0, 1) := by decide +kernel
theorem d_LW_law_361 : decode code 361 = .ok (.iload_n 3, 1) := by decide +kernel
theorem d_LW_law_362 : decode code 362 = .ok (.iconst 5, 1) := by decide +kernel
theorem d_LW_law_363 : decode code 363 = .ok (.iadd, 1) := by decide +kernel
theorem d_LW_law_364 : decode code 364 = .ok (.iaload, 1) := by decide +kernel
theorem d_LW_law_365 : decode code 365 = .ok (.ifCond .eq 7, 3) := by decide +kernel
theorem d_LW_law_368 : decode code 368 = .ok (.iconst 1, 1) := by decide +kernel
theorem d_LW_law_369 : decode code 369 = .ok (.goto 4, 3) := by decide +kernel
theorem d_LW_law_372 : decode code 372 = .ok (.iconst 0, 1) := by decide +kernel
theorem d_LW_law_373 : decode code 373 = .ok (.invokevirtual 38, 3) := by decide +kernel
theorem d_LW_law_376 : decode code 376 = .ok (.if_icmp .eq 338, 3) := by decide +kernel
theorem d_LW_law_379 : decode code 379 = .ok (.iconst 0, 1) := by decide +kernel
theorem d_LW_law_380 : decode code 380 = .ok (.ireturn, 1) := by decide +kernel
theorem d_LW_law_381 : decode code 381 = .ok (.aload_n 1, 1) := by decide +kernel
theorem d_LW_law_382 : decode code 382 = .ok (.aload_n 0, 1) := by decide +kernel
theorem d_LW_law_383 : decode code 383 = .ok (.iload_n 3, 1) := by decide +kernel
theorem d_LW_law_384 : decode code 384 = .ok (.iconst 1, 1) := by decide +kernel
theorem d_LW_law_385 : decode code 385 = .ok (.iadd, 1) := by decide +kernel
theorem d_LW_law_386 : decode code 386 = .ok (.iaload, 1) := by decide +kernel
theorem d_LW_law_387 : decode code 387 = .ok (.aload_n 0, 1) := by decide +kernel
theorem d_LW_law_388 : decode code 388 = .ok (.iload_n 3, 1) := by decide +kernel
theorem d_LW_law_389 : decode code 389 = .ok (.iconst 2, 1) := by decide +kernel
theorem d_LW_law_390 : decode code 390 = .ok (.iadd, 1) := by decide +kernel
theorem d_LW_law_391 : decode code 391 = .ok (.iaload, 1) := by decide +kernel
theorem d_LW_law_392 : decode code 392 = .ok (.invokevirtual 39, 3) := by decide +kernel
theorem d_LW_law_395 : decode code 395 = .ok (.aload_n 2, 1) := by decide +kernel
theorem d_LW_law_396 : decode code 396 = .ok (.aload_n 0, 1) := by decide +kernel
theorem d_LW_law_397 : decode code 397 = .ok (.iload_n 3, 1) := by decide +kernel
theorem d_LW_law_398 : decode code 398 = .ok (.iconst 1, 1) := by decide +kernel
theorem d_LW_law_399 : decode code 399 = .ok (.iadd, 1) := by decide +kernel
theorem d_LW_law_400 : decode code 400 = .ok (.iaload, 1) := by decide +kernel
theorem d_LW_law_401 : decode code 401 = .ok (.aload_n 0, 1) := by decide +kernel
theorem d_LW_law_402 : decode code 402 = .ok (.iload_n 3, 1) := by decide +kernel
theorem d_LW_law_403 : decode code 403 = .ok (.iconst 2, 1) := by decide +kernel
theorem d_LW_law_404 : decode code 404 = .ok (.iadd, 1) := by decide +kernel
theorem d_LW_law_405 : decode code 405 = .ok (.iaload, 1) := by decide +kernel
theorem d_LW_law_406 : decode code 406 = .ok (.invokevirtual 43, 3) := by decide +kernel
theorem d_LW_law_409 : decode code 409 = .ok (.if_icmp .eq 305, 3) := by decide +kernel
theorem d_LW_law_412 : decode code 412 = .ok (.iconst 0, 1) := by decide +kernel
theorem d_LW_law_413 : decode code 413 = .ok (.ireturn, 1) := by decide +kernel
theorem d_LW_law_414 : decode code 414 = .ok (.aload_n 1, 1) := by decide +kernel
theorem d_LW_law_415 : decode code 415 = .ok (.invokevirtual 44, 3) := by decide +kernel
theorem d_LW_law_418 : decode code 418 = .ok (.aload_n 2, 1) := by decide +kernel
theorem d_LW_law_419 : decode code 419 = .ok (.invokevirtual 48, 3) := by decide +kernel
theorem d_LW_law_422 : decode code 422 = .ok (.if_icmp .eq 292, 3) := by decide +kernel
theorem d_LW_law_425 : decode code 425 = .ok (.iconst 0, 1) := by decide +kernel
theorem d_LW_law_426 : decode code 426 = .ok (.ireturn, 1) := by decide +kernel
theorem d_LW_law_427 : decode code 427 = .ok (.aload_n 1, 1) := by decide +kernel
theorem d_LW_law_428 : decode code 428 = .ok (.aload_n 0, 1) := by decide +kernel
theorem d_LW_law_429 : decode code 429 = .ok (.iload_n 3, 1) := by decide +kernel
theorem d_LW_law_430 : decode code 430 = .ok (.iconst 1, 1) := by decide +kernel
theorem d_LW_law_431 : decode code 431 = .ok (.iadd, 1) := by decide +kernel
theorem d_LW_law_432 : decode code 432 = .ok (.iaload, 1) := by decide +kernel
theorem d_LW_law_433 : decode code 433 = .ok (.invokevirtual 49, 3) := by decide +kernel
theorem d_LW_law_436 : decode code 436 = .ok (.aload_n 2, 1) := by decide +kernel
theorem d_LW_law_437 : decode code 437 = .ok (.aload_n 0, 1) := by decide +kernel
theorem d_LW_law_438 : decode code 438 = .ok (.iload_n 3, 1) := by decide +kernel
theorem d_LW_law_439 : decode code 439 = .ok (.iconst 1, 1) := by decide +kernel
theorem d_LW_law_440 : decode code 440 = .ok (.iadd, 1) := by decide +kernel
theorem d_LW_law_441 : decode code 441 = .ok (.iaload, 1) := by decide +kernel
theorem d_LW_law_442 : decode code 442 = .ok (.invokevirtual 53, 3) := by decide +kernel
theorem d_LW_law_445 : decode code 445 = .ok (.if_icmp .eq 269, 3) := by decide +kernel
theorem d_LW_law_448 : decode code 448 = .ok (.iconst 0, 1) := by decide +kernel
theorem d_LW_law_449 : decode code 449 = .ok (.ireturn, 1) := by decide +kernel
theorem d_LW_law_450 : decode code 450 = .ok (.aload_n 1, 1) := by decide +kernel
theorem d_LW_law_451 : decode code 451 = .ok (.aload_n 0, 1) := by decide +kernel
theorem d_LW_law_452 : decode code 452 = .ok (.iload_n 3, 1) := by decide +kernel
theorem d_LW_law_453 : decode code 453 = .ok (.iconst 1, 1) := by decide +kernel
theorem d_LW_law_454 : decode code 454 = .ok (.iadd, 1) := by decide +kernel
theorem d_LW_law_455 : decode code 455 = .ok (.iaload, 1) := by decide +kernel
theorem d_LW_law_456 : decode code 456 = .ok (.invokevirtual 54, 3) := by decide +kernel
theorem d_LW_law_459 : decode code 459 = .ok (.aload_n 2, 1) := by decide +kernel
theorem d_LW_law_460 : decode code 460 = .ok (.aload_n 0, 1) := by decide +kernel
theorem d_LW_law_461 : decode code 461 = .ok (.iload_n 3, 1) := by decide +kernel
theorem d_LW_law_462 : decode code 462 = .ok (.iconst 1, 1) := by decide +kernel
theorem d_LW_law_463 : decode code 463 = .ok (.iadd, 1) := by decide +kernel
theorem d_LW_law_464 : decode code 464 = .ok (.iaload, 1) := by decide +kernel
theorem d_LW_law_465 : decode code 465 = .ok (.invokevirtual 57, 3) := by decide +kernel
theorem d_LW_law_468 : decode code 468 = .ok (.if_icmp .eq 246, 3) := by decide +kernel
theorem d_LW_law_471 : decode code 471 = .ok (.iconst 0, 1) := by decide +kernel
theorem d_LW_law_472 : decode code 472 = .ok (.ireturn, 1) := by decide +kernel
theorem d_LW_law_473 : decode code 473 = .ok (.aload_n 1, 1) := by decide +kernel
theorem d_LW_law_474 : decode code 474 = .ok (.aload_n 0, 1) := by decide +kernel
theorem d_LW_law_475 : decode code 475 = .ok (.iload_n 3, 1) := by decide +kernel
theorem d_LW_law_476 : decode code 476 = .ok (.iconst 1, 1) := by decide +kernel
theorem d_LW_law_477 : decode code 477 = .ok (.iadd, 1) := by decide +kernel
theorem d_LW_law_478 : decode code 478 = .ok (.iaload, 1) := by decide +kernel
theorem d_LW_law_479 : decode code 479 = .ok (.invokevirtual 58, 3) := by decide +kernel
theorem d_LW_law_482 : decode code 482 = .ok (.aload_n 2, 1) := by decide +kernel
theorem d_LW_law_483 : decode code 483 = .ok (.aload_n 0, 1) := by decide +kernel
theorem d_LW_law_484 : decode code 484 = .ok (.iload_n 3, 1) := by decide +kernel
theorem d_LW_law_485 : decode code 485 = .ok (.iconst 1, 1) := by decide +kernel
theorem d_LW_law_486 : decode code 486 = .ok (.iadd, 1) := by decide +kernel
theorem d_LW_law_487 : decode code 487 = .ok (.iaload, 1) := by decide +kernel
theorem d_LW_law_488 : decode code 488 = .ok (.invokevirtual 62, 3) := by decide +kernel
theorem d_LW_law_491 : decode code 491 = .ok (.if_icmp .eq 223, 3) := by decide +kernel
theorem d_LW_law_494 : decode code 494 = .ok (.iconst 0, 1) := by decide +kernel
theorem d_LW_law_495 : decode code 495 = .ok (.ireturn, 1) := by decide +kernel
theorem d_LW_law_496 : decode code 496 = .ok (.aload_n 1, 1) := by decide +kernel
theorem d_LW_law_497 : decode code 497 = .ok (.aload_n 0, 1) := by decide +kernel
theorem d_LW_law_498 : decode code 498 = .ok (.iload_n 3, 1) := by decide +kernel
theorem d_LW_law_499 : decode code 499 = .ok (.iconst 1, 1) := by decide +kernel
theorem d_LW_law_500 : decode code 500 = .ok (.iadd, 1) := by decide +kernel
theorem d_LW_law_501 : decode code 501 = .ok (.iaload, 1) := by decide +kernel
theorem d_LW_law_502 : decode code 502 = .ok (.invokevirtual 63, 3) := by decide +kernel
theorem d_LW_law_505 : decode code 505 = .ok (.aload_n 2, 1) := by decide +kernel
theorem d_LW_law_506 : decode code 506 = .ok (.aload_n 0, 1) := by decide +kernel
theorem d_LW_law_507 : decode code 507 = .ok (.iload_n 3, 1) := by decide +kernel
theorem d_LW_law_508 : decode code 508 = .ok (.iconst 1, 1) := by decide +kernel
theorem d_LW_law_509 : decode code 509 = .ok (.iadd, 1) := by decide +kernel
theorem d_LW_law_510 : decode code 510 = .ok (.iaload, 1) := by decide +kernel
theorem d_LW_law_511 : decode code 511 = .ok (.invokevirtual 66, 3) := by decide +kernel
theorem d_LW_law_514 : decode code 514 = .ok (.if_icmp .eq 200, 3) := by decide +kernel
theorem d_LW_law_517 : decode code 517 = .ok (.iconst 0, 1) := by decide +kernel
theorem d_LW_law_518 : decode code 518 = .ok (.ireturn, 1) := by decide +kernel
theorem d_LW_law_519 : decode code 519 = .ok (.aload_n 1, 1) := by decide +kernel
theorem d_LW_law_520 : decode code 520 = .ok (.aload_n 0, 1) := by decide +kernel
theorem d_LW_law_521 : decode code 521 = .ok (.iload_n 3, 1) := by decide +kernel
theorem d_LW_law_522 : decode code 522 = .ok (.iconst 1, 1) := by decide +kernel
theorem d_LW_law_523 : decode code 523 = .ok (.iadd, 1) := by decide +kernel
theorem d_LW_law_524 : decode code 524 = .ok (.iaload, 1) := by decide +kernel
theorem d_LW_law_525 : decode code 525 = .ok (.invokevirtual 67, 3) := by decide +kernel
theorem d_LW_law_528 : decode code 528 = .ok (.aload_n 2, 1) := by decide +kernel
theorem d_LW_law_529 : decode code 529 = .ok (.aload_n 0, 1) := by decide +kernel
theorem d_LW_law_530 : decode code 530 = .ok (.iload_n 3, 1) := by decide +kernel
theorem d_LW_law_531 : decode code 531 = .ok (.iconst 1, 1) := by decide +kernel
theorem d_LW_law_532 : decode code 532 = .ok (.iadd, 1) := by decide +kernel
theorem d_LW_law_533 : decode code 533 = .ok (.iaload, 1) := by decide +kernel
theorem d_LW_law_534 : decode code 534 = .ok (.invokevirtual 70, 3) := by decide +kernel
theorem d_LW_law_537 : decode code 537 = .ok (.if_icmp .eq 177, 3) := by decide +kernel
theorem d_LW_law_540 : decode code 540 = .ok (.iconst 0, 1) := by decide +kernel
theorem d_LW_law_541 : decode code 541 = .ok (.ireturn, 1) := by decide +kernel
theorem d_LW_law_542 : decode code 542 = .ok (.aload_n 1, 1) := by decide +kernel
theorem d_LW_law_543 : decode code 543 = .ok (.aload_n 0, 1) := by decide +kernel
theorem d_LW_law_544 : decode code 544 = .ok (.iload_n 3, 1) := by decide +kernel
theorem d_LW_law_545 : decode code 545 = .ok (.iconst 1, 1) := by decide +kernel
theorem d_LW_law_546 : decode code 546 = .ok (.iadd, 1) := by decide +kernel
theorem d_LW_law_547 : decode code 547 = .ok (.iaload, 1) := by decide +kernel
theorem d_LW_law_548 : decode code 548 = .ok (.invokevirtual 71, 3) := by decide +kernel
theorem d_LW_law_551 : decode code 551 = .ok (.aload_n 2, 1) := by decide +kernel
theorem d_LW_law_552 : decode code 552 = .ok (.aload_n 0, 1) := by decide +kernel
theorem d_LW_law_553 : decode code 553 = .ok (.iload_n 3, 1) := by decide +kernel
theorem d_LW_law_554 : decode code 554 = .ok (.iconst 1, 1) := by decide +kernel
theorem d_LW_law_555 : decode code 555 = .ok (.iadd, 1) := by decide +kernel
theorem d_LW_law_556 : decode code 556 = .ok (.iaload, 1) := by decide +kernel
theorem d_LW_law_557 : decode code 557 = .ok (.invokevirtual 74, 3) := by decide +kernel
theorem d_LW_law_560 : decode code 560 = .ok (.if_icmp .eq 154, 3) := by decide +kernel
theorem d_LW_law_563 : decode code 563 = .ok (.iconst 0, 1) := by decide +kernel
theorem d_LW_law_564 : decode code 564 = .ok (.ireturn, 1) := by decide +kernel
theorem d_LW_law_565 : decode code 565 = .ok (.aload_n 1, 1) := by decide +kernel
theorem d_LW_law_566 : decode code 566 = .ok (.aload_n 0, 1) := by decide +kernel
theorem d_LW_law_567 : decode code 567 = .ok (.iload_n 3, 1) := by decide +kernel
theorem d_LW_law_568 : decode code 568 = .ok (.iconst 1, 1) := by decide +kernel
theorem d_LW_law_569 : decode code 569 = .ok (.iadd, 1) := by decide +kernel
theorem d_LW_law_570 : decode code 570 = .ok (.iaload, 1) := by decide +kernel
theorem d_LW_law_571 : decode code 571 = .ok (.aload_n 0, 1) := by decide +kernel
theorem d_LW_law_572 : decode code 572 = .ok (.iload_n 3, 1) := by decide +kernel
theorem d_LW_law_573 : decode code 573 = .ok (.iconst 2, 1) := by decide +kernel
theorem d_LW_law_574 : decode code 574 = .ok (.iadd, 1) := by decide +kernel
theorem d_LW_law_575 : decode code 575 = .ok (.iaload, 1) := by decide +kernel
theorem d_LW_law_576 : decode code 576 = .ok (.invokevirtual 75, 3) := by decide +kernel
theorem d_LW_law_579 : decode code 579 = .ok (.aload_n 2, 1) := by decide +kernel
theorem d_LW_law_580 : decode code 580 = .ok (.aload_n 0, 1) := by decide +kernel
theorem d_LW_law_581 : decode code 581 = .ok (.iload_n 3, 1) := by decide +kernel
theorem d_LW_law_582 : decode code 582 = .ok (.iconst 1, 1) := by decide +kernel
theorem d_LW_law_583 : decode code 583 = .ok (.iadd, 1) := by decide +kernel
theorem d_LW_law_584 : decode code 584 = .ok (.iaload, 1) := by decide +kernel
theorem d_LW_law_585 : decode code 585 = .ok (.aload_n 0, 1) := by decide +kernel
theorem d_LW_law_586 : decode code 586 = .ok (.iload_n 3, 1) := by decide +kernel
theorem d_LW_law_587 : decode code 587 = .ok (.iconst 2, 1) := by decide +kernel
theorem d_LW_law_588 : decode code 588 = .ok (.iadd, 1) := by decide +kernel
theorem d_LW_law_589 : decode code 589 = .ok (.iaload, 1) := by decide +kernel
theorem d_LW_law_590 : decode code 590 = .ok (.invokevirtual 79, 3) := by decide +kernel
theorem d_LW_law_593 : decode code 593 = .ok (.if_icmp .eq 121, 3) := by decide +kernel
theorem d_LW_law_596 : decode code 596 = .ok (.iconst 0, 1) := by decide +kernel
theorem d_LW_law_597 : decode code 597 = .ok (.ireturn, 1) := by decide +kernel
theorem d_LW_law_598 : decode code 598 = .ok (.aload_n 1, 1) := by decide +kernel
theorem d_LW_law_599 : decode code 599 = .ok (.aload_n 0, 1) := by decide +kernel
theorem d_LW_law_600 : decode code 600 = .ok (.iload_n 3, 1) := by decide +kernel
theorem d_LW_law_601 : decode code 601 = .ok (.iconst 1, 1) := by decide +kernel
theorem d_LW_law_602 : decode code 602 = .ok (.iadd, 1) := by decide +kernel
theorem d_LW_law_603 : decode code 603 = .ok (.iaload, 1) := by decide +kernel
theorem d_LW_law_604 : decode code 604 = .ok (.aload_n 0, 1) := by decide +kernel
theorem d_LW_law_605 : decode code 605 = .ok (.iload_n 3, 1) := by decide +kernel
theorem d_LW_law_606 : decode code 606 = .ok (.iconst 2, 1) := by decide +kernel
theorem d_LW_law_607 : decode code 607 = .ok (.iadd, 1) := by decide +kernel
theorem d_LW_law_608 : decode code 608 = .ok (.iaload, 1) := by decide +kernel
theorem d_LW_law_609 : decode code 609 = .ok (.invokevirtual 80, 3) := by decide +kernel
theorem d_LW_law_612 : decode code 612 = .ok (.aload_n 2, 1) := by decide +kernel
theorem d_LW_law_613 : decode code 613 = .ok (.aload_n 0, 1) := by decide +kernel
theorem d_LW_law_614 : decode code 614 = .ok (.iload_n 3, 1) := by decide +kernel
theorem d_LW_law_615 : decode code 615 = .ok (.iconst 1, 1) := by decide +kernel
theorem d_LW_law_616 : decode code 616 = .ok (.iadd, 1) := by decide +kernel
theorem d_LW_law_617 : decode code 617 = .ok (.iaload, 1) := by decide +kernel
theorem d_LW_law_618 : decode code 618 = .ok (.aload_n 0, 1) := by decide +kernel
theorem d_LW_law_619 : decode code 619 = .ok (.iload_n 3, 1) := by decide +kernel
theorem d_LW_law_620 : decode code 620 = .ok (.iconst 2, 1) := by decide +kernel
theorem d_LW_law_621 : decode code 621 = .ok (.iadd, 1) := by decide +kernel
theorem d_LW_law_622 : decode code 622 = .ok (.iaload, 1) := by decide +kernel
theorem d_LW_law_623 : decode code 623 = .ok (.invokevirtual 83, 3) := by decide +kernel
theorem d_LW_law_626 : decode code 626 = .ok (.if_icmp .eq 88, 3) := by decide +kernel
theorem d_LW_law_629 : decode code 629 = .ok (.iconst 0, 1) := by decide +kernel
theorem d_LW_law_630 : decode code 630 = .ok (.ireturn, 1) := by decide +kernel
theorem d_LW_law_631 : decode code 631 = .ok (.aload_n 1, 1) := by decide +kernel
theorem d_LW_law_632 : decode code 632 = .ok (.aload_n 0, 1) := by decide +kernel
theorem d_LW_law_633 : decode code 633 = .ok (.iload_n 3, 1) := by decide +kernel
theorem d_LW_law_634 : decode code 634 = .ok (.iconst 1, 1) := by decide +kernel
theorem d_LW_law_635 : decode code 635 = .ok (.iadd, 1) := by decide +kernel
theorem d_LW_law_636 : decode code 636 = .ok (.iaload, 1) := by decide +kernel
theorem d_LW_law_637 : decode code 637 = .ok (.invokevirtual 84, 3) := by decide +kernel
theorem d_LW_law_640 : decode code 640 = .ok (.aload_n 2, 1) := by decide +kernel
theorem d_LW_law_641 : decode code 641 = .ok (.aload_n 0, 1) := by decide +kernel
theorem d_LW_law_642 : decode code 642 = .ok (.iload_n 3, 1) := by decide +kernel
theorem d_LW_law_643 : decode code 643 = .ok (.iconst 1, 1) := by decide +kernel
theorem d_LW_law_644 : decode code 644 = .ok (.iadd, 1) := by decide +kernel
theorem d_LW_law_645 : decode code 645 = .ok (.iaload, 1) := by decide +kernel
theorem d_LW_law_646 : decode code 646 = .ok (.invokevirtual 88, 3) := by decide +kernel
theorem d_LW_law_649 : decode code 649 = .ok (.lcmp, 1) := by decide +kernel
theorem d_LW_law_650 : decode code 650 = .ok (.ifCond .eq 64, 3) := by decide +kernel
theorem d_LW_law_653 : decode code 653 = .ok (.iconst 0, 1) := by decide +kernel
theorem d_LW_law_654 : decode code 654 = .ok (.ireturn, 1) := by decide +kernel
theorem d_LW_law_655 : decode code 655 = .ok (.aload_n 1, 1) := by decide +kernel
theorem d_LW_law_656 : decode code 656 = .ok (.aload_n 0, 1) := by decide +kernel
theorem d_LW_law_657 : decode code 657 = .ok (.iload_n 3, 1) := by decide +kernel
theorem d_LW_law_658 : decode code 658 = .ok (.iconst 1, 1) := by decide +kernel
theorem d_LW_law_659 : decode code 659 = .ok (.iadd, 1) := by decide +kernel
theorem d_LW_law_660 : decode code 660 = .ok (.iaload, 1) := by decide +kernel
theorem d_LW_law_661 : decode code 661 = .ok (.invokevirtual 89, 3) := by decide +kernel
theorem d_LW_law_664 : decode code 664 = .ok (.aload_n 2, 1) := by decide +kernel
theorem d_LW_law_665 : decode code 665 = .ok (.aload_n 0, 1) := by decide +kernel
theorem d_LW_law_666 : decode code 666 = .ok (.iload_n 3, 1) := by decide +kernel
theorem d_LW_law_667 : decode code 667 = .ok (.iconst 1, 1) := by decide +kernel
theorem d_LW_law_668 : decode code 668 = .ok (.iadd, 1) := by decide +kernel
theorem d_LW_law_669 : decode code 669 = .ok (.iaload, 1) := by decide +kernel
theorem d_LW_law_670 : decode code 670 = .ok (.invokevirtual 92, 3) := by decide +kernel
theorem d_LW_law_673 : decode code 673 = .ok (.if_icmp .eq 41, 3) := by decide +kernel
theorem d_LW_law_676 : decode code 676 = .ok (.iconst 0, 1) := by decide +kernel
theorem d_LW_law_677 : decode code 677 = .ok (.ireturn, 1) := by decide +kernel
theorem d_LW_law_678 : decode code 678 = .ok (.aload_n 1, 1) := by decide +kernel
theorem d_LW_law_679 : decode code 679 = .ok (.aload_n 0, 1) := by decide +kernel
theorem d_LW_law_680 : decode code 680 = .ok (.iload_n 3, 1) := by decide +kernel
theorem d_LW_law_681 : decode code 681 = .ok (.iconst 1, 1) := by decide +kernel
theorem d_LW_law_682 : decode code 682 = .ok (.iadd, 1) := by decide +kernel
theorem d_LW_law_683 : decode code 683 = .ok (.iaload, 1) := by decide +kernel
theorem d_LW_law_684 : decode code 684 = .ok (.invokevirtual 93, 3) := by decide +kernel
theorem d_LW_law_687 : decode code 687 = .ok (.aload_n 2, 1) := by decide +kernel
theorem d_LW_law_688 : decode code 688 = .ok (.aload_n 0, 1) := by decide +kernel
theorem d_LW_law_689 : decode code 689 = .ok (.iload_n 3, 1) := by decide +kernel
theorem d_LW_law_690 : decode code 690 = .ok (.iconst 1, 1) := by decide +kernel
theorem d_LW_law_691 : decode code 691 = .ok (.iadd, 1) := by decide +kernel
theorem d_LW_law_692 : decode code 692 = .ok (.iaload, 1) := by decide +kernel
theorem d_LW_law_693 : decode code 693 = .ok (.invokevirtual 96, 3) := by decide +kernel
theorem d_LW_law_696 : decode code 696 = .ok (.if_icmp .eq 18, 3) := by decide +kernel
theorem d_LW_law_699 : decode code 699 = .ok (.iconst 0, 1) := by decide +kernel
theorem d_LW_law_700 : decode code 700 = .ok (.ireturn, 1) := by decide +kernel
theorem d_LW_law_701 : decode code 701 = .ok (.aload_n 1, 1) := by decide +kernel
theorem d_LW_law_702 : decode code 702 = .ok (.invokevirtual 97, 3) := by decide +kernel
theorem d_LW_law_705 : decode code 705 = .ok (.aload_n 2, 1) := by decide +kernel
theorem d_LW_law_706 : decode code 706 = .ok (.invokevirtual 100, 3) := by decide +kernel
theorem d_LW_law_709 : decode code 709 = .ok (.if_icmp .eq 5, 3) := by decide +kernel
theorem d_LW_law_712 : decode code 712 = .ok (.iconst 0, 1) := by decide +kernel
theorem d_LW_law_713 : decode code 713 = .ok (.ireturn, 1) := by decide +kernel
theorem d_LW_law_714 : decode code 714 = .ok (.iinc 3 6, 3) := by decide +kernel
theorem d_LW_law_717 : decode code 717 = .ok (.goto (-699), 3) := by decide +kernel
theorem d_LW_law_720 : decode code 720 = .ok (.iconst 1, 1) := by decide +kernel
theorem d_LW_law_721 : decode code 721 = .ok (.ireturn, 1) := by decide +kernel