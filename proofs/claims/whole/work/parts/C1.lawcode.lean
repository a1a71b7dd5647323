/-! ===== the law's instructions, one by one ===== -/
theorem lf_0 : ft 193 0 = some (.new 7, 3, 10) := by decide +kernel
theorem lf_3 : ft 193 3 = some (.dup, 4, 0) := by decide +kernel
theorem lf_4 : ft 193 4 = some (.invokespecial 9, 7, 82) := by decide +kernel
theorem lf_7 : ft 193 7 = some (.astore_n 1, 8, 0) := by decide +kernel
theorem lf_8 : ft 193 8 = some (.new 10, 11, 11) := by decide +kernel
theorem lf_11 : ft 193 11 = some (.dup, 12, 0) := by decide +kernel
theorem lf_12 : ft 193 12 = some (.invokespecial 12, 15, 119) := by decide +kernel
theorem lf_15 : ft 193 15 = some (.astore_n 2, 16, 0) := by decide +kernel
theorem lf_16 : ft 193 16 = some (.iconst 0, 17, 0) := by decide +kernel
theorem lf_17 : ft 193 17 = some (.istore_n 3, 18, 0) := by decide +kernel
theorem lf_18 : ft 193 18 = some (.iload_n 3, 19, 0) := by decide +kernel
theorem lf_19 : ft 193 19 = some (.aload_n 0, 20, 0) := by decide +kernel
theorem lf_20 : ft 193 20 = some (.arraylength, 21, 0) := by decide +kernel
theorem lf_21 : ft 193 21 = some (.bipush 6, 23, 0) := by decide +kernel
theorem lf_23 : ft 193 23 = some (.isub, 24, 0) := by decide +kernel
theorem lf_24 : ft 193 24 = some (.if_icmp .gt 952, 27, 976) := by decide +kernel
theorem lf_27 : ft 193 27 = some (.aload_n 0, 28, 0) := by decide +kernel
theorem lf_28 : ft 193 28 = some (.iload_n 3, 29, 0) := by decide +kernel
theorem lf_29 : ft 193 29 = some (.iaload, 30, 0) := by decide +kernel
theorem lf_30 : ft 193 30 = some (.bipush 31, 32, 0) := by decide +kernel
theorem lf_32 : ft 193 32 = some (.iand, 33, 0) := by decide +kernel
theorem lf_33 : ft 193 33 = some (.tableswitch 937 0 25 #[119, 182, 205, 228, 281, 324, 367, 390, 423, 436, 469, 492, 525, 538, 581, 634, 677, 710, 743, 756, 769, 802, 835, 858, 881, 914], 152, 0) := by decide +kernel
theorem lf_152 : ft 193 152 = some (.aload_n 1, 153, 0) := by decide +kernel
theorem lf_153 : ft 193 153 = some (.aload_n 0, 154, 0) := by decide +kernel
theorem lf_154 : ft 193 154 = some (.iload_n 3, 155, 0) := by decide +kernel
theorem lf_155 : ft 193 155 = some (.iconst 1, 156, 0) := by decide +kernel
theorem lf_156 : ft 193 156 = some (.iadd, 157, 0) := by decide +kernel
theorem lf_157 : ft 193 157 = some (.iaload, 158, 0) := by decide +kernel
theorem lf_158 : ft 193 158 = some (.aload_n 0, 159, 0) := by decide +kernel
theorem lf_159 : ft 193 159 = some (.iload_n 3, 160, 0) := by decide +kernel
theorem lf_160 : ft 193 160 = some (.iconst 2, 161, 0) := by decide +kernel
theorem lf_161 : ft 193 161 = some (.iadd, 162, 0) := by decide +kernel
theorem lf_162 : ft 193 162 = some (.iaload, 163, 0) := by decide +kernel
theorem lf_163 : ft 193 163 = some (.aload_n 0, 164, 0) := by decide +kernel
theorem lf_164 : ft 193 164 = some (.iload_n 3, 165, 0) := by decide +kernel
theorem lf_165 : ft 193 165 = some (.iconst 3, 166, 0) := by decide +kernel
theorem lf_166 : ft 193 166 = some (.iadd, 167, 0) := by decide +kernel
theorem lf_167 : ft 193 167 = some (.iaload, 168, 0) := by decide +kernel
theorem lf_168 : ft 193 168 = some (.aload_n 0, 169, 0) := by decide +kernel
theorem lf_169 : ft 193 169 = some (.iload_n 3, 170, 0) := by decide +kernel
theorem lf_170 : ft 193 170 = some (.iconst 4, 171, 0) := by decide +kernel
theorem lf_171 : ft 193 171 = some (.iadd, 172, 0) := by decide +kernel
theorem lf_172 : ft 193 172 = some (.iaload, 173, 0) := by decide +kernel
theorem lf_173 : ft 193 173 = some (.aload_n 0, 174, 0) := by decide +kernel
theorem lf_174 : ft 193 174 = some (.iload_n 3, 175, 0) := by decide +kernel
theorem lf_175 : ft 193 175 = some (.iconst 5, 176, 0) := by decide +kernel
theorem lf_176 : ft 193 176 = some (.iadd, 177, 0) := by decide +kernel
theorem lf_177 : ft 193 177 = some (.iaload, 178, 0) := by decide +kernel
theorem lf_178 : ft 193 178 = some (.invokevirtual 13, 181, 83) := by decide +kernel
theorem lf_181 : ft 193 181 = some (.aload_n 2, 182, 0) := by decide +kernel
theorem lf_182 : ft 193 182 = some (.aload_n 0, 183, 0) := by decide +kernel
theorem lf_183 : ft 193 183 = some (.iload_n 3, 184, 0) := by decide +kernel
theorem lf_184 : ft 193 184 = some (.iconst 1, 185, 0) := by decide +kernel
theorem lf_185 : ft 193 185 = some (.iadd, 186, 0) := by decide +kernel
theorem lf_186 : ft 193 186 = some (.iaload, 187, 0) := by decide +kernel
theorem lf_187 : ft 193 187 = some (.aload_n 0, 188, 0) := by decide +kernel
theorem lf_188 : ft 193 188 = some (.iload_n 3, 189, 0) := by decide +kernel
theorem lf_189 : ft 193 189 = some (.iconst 2, 190, 0) := by decide +kernel
theorem lf_190 : ft 193 190 = some (.iadd, 191, 0) := by decide +kernel
theorem lf_191 : ft 193 191 = some (.iaload, 192, 0) := by decide +kernel
theorem lf_192 : ft 193 192 = some (.aload_n 0, 193, 0) := by decide +kernel
theorem lf_193 : ft 193 193 = some (.iload_n 3, 194, 0) := by decide +kernel
theorem lf_194 : ft 193 194 = some (.iconst 3, 195, 0) := by decide +kernel
theorem lf_195 : ft 193 195 = some (.iadd, 196, 0) := by decide +kernel
theorem lf_196 : ft 193 196 = some (.iaload, 197, 0) := by decide +kernel
theorem lf_197 : ft 193 197 = some (.aload_n 0, 198, 0) := by decide +kernel
theorem lf_198 : ft 193 198 = some (.iload_n 3, 199, 0) := by decide +kernel
theorem lf_199 : ft 193 199 = some (.iconst 4, 200, 0) := by decide +kernel
theorem lf_200 : ft 193 200 = some (.iadd, 201, 0) := by decide +kernel
theorem lf_201 : ft 193 201 = some (.iaload, 202, 0) := by decide +kernel
theorem lf_202 : ft 193 202 = some (.aload_n 0, 203, 0) := by decide +kernel
theorem lf_203 : ft 193 203 = some (.iload_n 3, 204, 0) := by decide +kernel
theorem lf_204 : ft 193 204 = some (.iconst 5, 205, 0) := by decide +kernel
theorem lf_205 : ft 193 205 = some (.iadd, 206, 0) := by decide +kernel
theorem lf_206 : ft 193 206 = some (.iaload, 207, 0) := by decide +kernel
theorem lf_207 : ft 193 207 = some (.invokevirtual 17, 210, 121) := by decide +kernel
theorem lf_210 : ft 193 210 = some (.if_icmp .eq 760, 213, 970) := by decide +kernel
theorem lf_213 : ft 193 213 = some (.iconst 0, 214, 0) := by decide +kernel
theorem lf_214 : ft 193 214 = some (.ireturn, 215, 0) := by decide +kernel
theorem lf_215 : ft 193 215 = some (.aload_n 1, 216, 0) := by decide +kernel
theorem lf_216 : ft 193 216 = some (.aload_n 0, 217, 0) := by decide +kernel
theorem lf_217 : ft 193 217 = some (.iload_n 3, 218, 0) := by decide +kernel
theorem lf_218 : ft 193 218 = some (.iconst 1, 219, 0) := by decide +kernel
theorem lf_219 : ft 193 219 = some (.iadd, 220, 0) := by decide +kernel
theorem lf_220 : ft 193 220 = some (.iaload, 221, 0) := by decide +kernel
theorem lf_221 : ft 193 221 = some (.invokevirtual 18, 224, 84) := by decide +kernel
theorem lf_224 : ft 193 224 = some (.aload_n 2, 225, 0) := by decide +kernel
theorem lf_225 : ft 193 225 = some (.aload_n 0, 226, 0) := by decide +kernel
theorem lf_226 : ft 193 226 = some (.iload_n 3, 227, 0) := by decide +kernel
theorem lf_227 : ft 193 227 = some (.iconst 1, 228, 0) := by decide +kernel
theorem lf_228 : ft 193 228 = some (.iadd, 229, 0) := by decide +kernel
theorem lf_229 : ft 193 229 = some (.iaload, 230, 0) := by decide +kernel
theorem lf_230 : ft 193 230 = some (.invokevirtual 22, 233, 122) := by decide +kernel
theorem lf_233 : ft 193 233 = some (.if_icmp .eq 737, 236, 970) := by decide +kernel
theorem lf_236 : ft 193 236 = some (.iconst 0, 237, 0) := by decide +kernel
theorem lf_237 : ft 193 237 = some (.ireturn, 238, 0) := by decide +kernel
theorem lf_238 : ft 193 238 = some (.aload_n 1, 239, 0) := by decide +kernel
theorem lf_239 : ft 193 239 = some (.aload_n 0, 240, 0) := by decide +kernel
theorem lf_240 : ft 193 240 = some (.iload_n 3, 241, 0) := by decide +kernel
theorem lf_241 : ft 193 241 = some (.iconst 1, 242, 0) := by decide +kernel
theorem lf_242 : ft 193 242 = some (.iadd, 243, 0) := by decide +kernel
theorem lf_243 : ft 193 243 = some (.iaload, 244, 0) := by decide +kernel
theorem lf_244 : ft 193 244 = some (.invokevirtual 23, 247, 85) := by decide +kernel
theorem lf_247 : ft 193 247 = some (.aload_n 2, 248, 0) := by decide +kernel
theorem lf_248 : ft 193 248 = some (.aload_n 0, 249, 0) := by decide +kernel
theorem lf_249 : ft 193 249 = some (.iload_n 3, 250, 0) := by decide +kernel
theorem lf_250 : ft 193 250 = some (.iconst 1, 251, 0) := by decide +kernel
theorem lf_251 : ft 193 251 = some (.iadd, 252, 0) := by decide +kernel
theorem lf_252 : ft 193 252 = some (.iaload, 253, 0) := by decide +kernel
theorem lf_253 : ft 193 253 = some (.invokevirtual 26, 256, 125) := by decide +kernel
theorem lf_256 : ft 193 256 = some (.if_icmp .eq 714, 259, 970) := by decide +kernel
theorem lf_259 : ft 193 259 = some (.iconst 0, 260, 0) := by decide +kernel
theorem lf_260 : ft 193 260 = some (.ireturn, 261, 0) := by decide +kernel
theorem lf_261 : ft 193 261 = some (.aload_n 1, 262, 0) := by decide +kernel
theorem lf_262 : ft 193 262 = some (.aload_n 0, 263, 0) := by decide +kernel
theorem lf_263 : ft 193 263 = some (.iload_n 3, 264, 0) := by decide +kernel
theorem lf_264 : ft 193 264 = some (.iconst 1, 265, 0) := by decide +kernel
theorem lf_265 : ft 193 265 = some (.iadd, 266, 0) := by decide +kernel
theorem lf_266 : ft 193 266 = some (.iaload, 267, 0) := by decide +kernel
theorem lf_267 : ft 193 267 = some (.aload_n 0, 268, 0) := by decide +kernel
theorem lf_268 : ft 193 268 = some (.iload_n 3, 269, 0) := by decide +kernel
theorem lf_269 : ft 193 269 = some (.iconst 2, 270, 0) := by decide +kernel
theorem lf_270 : ft 193 270 = some (.iadd, 271, 0) := by decide +kernel
theorem lf_271 : ft 193 271 = some (.iaload, 272, 0) := by decide +kernel
theorem lf_272 : ft 193 272 = some (.aload_n 0, 273, 0) := by decide +kernel
theorem lf_273 : ft 193 273 = some (.iload_n 3, 274, 0) := by decide +kernel
theorem lf_274 : ft 193 274 = some (.iconst 3, 275, 0) := by decide +kernel
theorem lf_275 : ft 193 275 = some (.iadd, 276, 0) := by decide +kernel
theorem lf_276 : ft 193 276 = some (.iaload, 277, 0) := by decide +kernel
theorem lf_277 : ft 193 277 = some (.aload_n 0, 278, 0) := by decide +kernel
theorem lf_278 : ft 193 278 = some (.iload_n 3, 279, 0) := by decide +kernel
theorem lf_279 : ft 193 279 = some (.iconst 4, 280, 0) := by decide +kernel
theorem lf_280 : ft 193 280 = some (.iadd, 281, 0) := by decide +kernel
theorem lf_281 : ft 193 281 = some (.iaload, 282, 0) := by decide +kernel
theorem lf_282 : ft 193 282 = some (.invokevirtual 27, 285, 86) := by decide +kernel
theorem lf_285 : ft 193 285 = some (.aload_n 2, 286, 0) := by decide +kernel
theorem lf_286 : ft 193 286 = some (.aload_n 0, 287, 0) := by decide +kernel
theorem lf_287 : ft 193 287 = some (.iload_n 3, 288, 0) := by decide +kernel
theorem lf_288 : ft 193 288 = some (.iconst 1, 289, 0) := by decide +kernel
theorem lf_289 : ft 193 289 = some (.iadd, 290, 0) := by decide +kernel
theorem lf_290 : ft 193 290 = some (.iaload, 291, 0) := by decide +kernel
theorem lf_291 : ft 193 291 = some (.aload_n 0, 292, 0) := by decide +kernel
theorem lf_292 : ft 193 292 = some (.iload_n 3, 293, 0) := by decide +kernel
theorem lf_293 : ft 193 293 = some (.iconst 2, 294, 0) := by decide +kernel
theorem lf_294 : ft 193 294 = some (.iadd, 295, 0) := by decide +kernel
theorem lf_295 : ft 193 295 = some (.iaload, 296, 0) := by decide +kernel
theorem lf_296 : ft 193 296 = some (.aload_n 0, 297, 0) := by decide +kernel
theorem lf_297 : ft 193 297 = some (.iload_n 3, 298, 0) := by decide +kernel
theorem lf_298 : ft 193 298 = some (.iconst 3, 299, 0) := by decide +kernel
theorem lf_299 : ft 193 299 = some (.iadd, 300, 0) := by decide +kernel
theorem lf_300 : ft 193 300 = some (.iaload, 301, 0) := by decide +kernel
theorem lf_301 : ft 193 301 = some (.aload_n 0, 302, 0) := by decide +kernel
theorem lf_302 : ft 193 302 = some (.iload_n 3, 303, 0) := by decide +kernel
theorem lf_303 : ft 193 303 = some (.iconst 4, 304, 0) := by decide +kernel
theorem lf_304 : ft 193 304 = some (.iadd, 305, 0) := by decide +kernel
theorem lf_305 : ft 193 305 = some (.iaload, 306, 0) := by decide +kernel
theorem lf_306 : ft 193 306 = some (.invokevirtual 31, 309, 126) := by decide +kernel
theorem lf_309 : ft 193 309 = some (.if_icmp .eq 661, 312, 970) := by decide +kernel
theorem lf_312 : ft 193 312 = some (.iconst 0, 313, 0) := by decide +kernel
theorem lf_313 : ft 193 313 = some (.ireturn, 314, 0) := by decide +kernel
theorem lf_314 : ft 193 314 = some (.aload_n 1, 315, 0) := by decide +kernel
theorem lf_315 : ft 193 315 = some (.aload_n 0, 316, 0) := by decide +kernel
theorem lf_316 : ft 193 316 = some (.iload_n 3, 317, 0) := by decide +kernel
theorem lf_317 : ft 193 317 = some (.iconst 1, 318, 0) := by decide +kernel
theorem lf_318 : ft 193 318 = some (.iadd, 319, 0) := by decide +kernel
theorem lf_319 : ft 193 319 = some (.iaload, 320, 0) := by decide +kernel
theorem lf_320 : ft 193 320 = some (.aload_n 0, 321, 0) := by decide +kernel
theorem lf_321 : ft 193 321 = some (.iload_n 3, 322, 0) := by decide +kernel
theorem lf_322 : ft 193 322 = some (.iconst 2, 323, 0) := by decide +kernel
theorem lf_323 : ft 193 323 = some (.iadd, 324, 0) := by decide +kernel
theorem lf_324 : ft 193 324 = some (.iaload, 325, 0) := by decide +kernel
theorem lf_325 : ft 193 325 = some (.aload_n 0, 326, 0) := by decide +kernel
theorem lf_326 : ft 193 326 = some (.iload_n 3, 327, 0) := by decide +kernel
theorem lf_327 : ft 193 327 = some (.iconst 3, 328, 0) := by decide +kernel
theorem lf_328 : ft 193 328 = some (.iadd, 329, 0) := by decide +kernel
theorem lf_329 : ft 193 329 = some (.iaload, 330, 0) := by decide +kernel
theorem lf_330 : ft 193 330 = some (.invokevirtual 32, 333, 87) := by decide +kernel
theorem lf_333 : ft 193 333 = some (.aload_n 2, 334, 0) := by decide +kernel
theorem lf_334 : ft 193 334 = some (.aload_n 0, 335, 0) := by decide +kernel
theorem lf_335 : ft 193 335 = some (.iload_n 3, 336, 0) := by decide +kernel
theorem lf_336 : ft 193 336 = some (.iconst 1, 337, 0) := by decide +kernel
theorem lf_337 : ft 193 337 = some (.iadd, 338, 0) := by decide +kernel
theorem lf_338 : ft 193 338 = some (.iaload, 339, 0) := by decide +kernel
theorem lf_339 : ft 193 339 = some (.aload_n 0, 340, 0) := by decide +kernel
theorem lf_340 : ft 193 340 = some (.iload_n 3, 341, 0) := by decide +kernel
theorem lf_341 : ft 193 341 = some (.iconst 2, 342, 0) := by decide +kernel
theorem lf_342 : ft 193 342 = some (.iadd, 343, 0) := by decide +kernel
theorem lf_343 : ft 193 343 = some (.iaload, 344, 0) := by decide +kernel
theorem lf_344 : ft 193 344 = some (.aload_n 0, 345, 0) := by decide +kernel
theorem lf_345 : ft 193 345 = some (.iload_n 3, 346, 0) := by decide +kernel
theorem lf_346 : ft 193 346 = some (.iconst 3, 347, 0) := by decide +kernel
theorem lf_347 : ft 193 347 = some (.iadd, 348, 0) := by decide +kernel
theorem lf_348 : ft 193 348 = some (.iaload, 349, 0) := by decide +kernel
theorem lf_349 : ft 193 349 = some (.invokevirtual 36, 352, 135) := by decide +kernel
theorem lf_352 : ft 193 352 = some (.if_icmp .eq 618, 355, 970) := by decide +kernel
theorem lf_355 : ft 193 355 = some (.iconst 0, 356, 0) := by decide +kernel
theorem lf_356 : ft 193 356 = some (.ireturn, 357, 0) := by decide +kernel
theorem lf_357 : ft 193 357 = some (.aload_n 1, 358, 0) := by decide +kernel
theorem lf_358 : ft 193 358 = some (.aload_n 0, 359, 0) := by decide +kernel
theorem lf_359 : ft 193 359 = some (.iload_n 3, 360, 0) := by decide +kernel
theorem lf_360 : ft 193 360 = some (.iconst 1, 361, 0) := by decide +kernel
theorem lf_361 : ft 193 361 = some (.iadd, 362, 0) := by decide +kernel
theorem lf_362 : ft 193 362 = some (.iaload, 363, 0) := by decide +kernel
theorem lf_363 : ft 193 363 = some (.aload_n 0, 364, 0) := by decide +kernel
theorem lf_364 : ft 193 364 = some (.iload_n 3, 365, 0) := by decide +kernel
theorem lf_365 : ft 193 365 = some (.iconst 2, 366, 0) := by decide +kernel
theorem lf_366 : ft 193 366 = some (.iadd, 367, 0) := by decide +kernel
theorem lf_367 : ft 193 367 = some (.iaload, 368, 0) := by decide +kernel
theorem lf_368 : ft 193 368 = some (.aload_n 0, 369, 0) := by decide +kernel
theorem lf_369 : ft 193 369 = some (.iload_n 3, 370, 0) := by decide +kernel
theorem lf_370 : ft 193 370 = some (.iconst 3, 371, 0) := by decide +kernel
theorem lf_371 : ft 193 371 = some (.iadd, 372, 0) := by decide +kernel
theorem lf_372 : ft 193 372 = some (.iaload, 373, 0) := by decide +kernel
theorem lf_373 : ft 193 373 = some (.invokevirtual 37, 376, 88) := by decide +kernel
theorem lf_376 : ft 193 376 = some (.aload_n 2, 377, 0) := by decide +kernel
theorem lf_377 : ft 193 377 = some (.aload_n 0, 378, 0) := by decide +kernel
theorem lf_378 : ft 193 378 = some (.iload_n 3, 379, 0) := by decide +kernel
theorem lf_379 : ft 193 379 = some (.iconst 1, 380, 0) := by decide +kernel
theorem lf_380 : ft 193 380 = some (.iadd, 381, 0) := by decide +kernel
theorem lf_381 : ft 193 381 = some (.iaload, 382, 0) := by decide +kernel
theorem lf_382 : ft 193 382 = some (.aload_n 0, 383, 0) := by decide +kernel
theorem lf_383 : ft 193 383 = some (.iload_n 3, 384, 0) := by decide +kernel
theorem lf_384 : ft 193 384 = some (.iconst 2, 385, 0) := by decide +kernel
theorem lf_385 : ft 193 385 = some (.iadd, 386, 0) := by decide +kernel
theorem lf_386 : ft 193 386 = some (.iaload, 387, 0) := by decide +kernel
theorem lf_387 : ft 193 387 = some (.aload_n 0, 388, 0) := by decide +kernel
theorem lf_388 : ft 193 388 = some (.iload_n 3, 389, 0) := by decide +kernel
theorem lf_389 : ft 193 389 = some (.iconst 3, 390, 0) := by decide +kernel
theorem lf_390 : ft 193 390 = some (.iadd, 391, 0) := by decide +kernel
theorem lf_391 : ft 193 391 = some (.iaload, 392, 0) := by decide +kernel
theorem lf_392 : ft 193 392 = some (.invokevirtual 40, 395, 136) := by decide +kernel
theorem lf_395 : ft 193 395 = some (.if_icmp .eq 575, 398, 970) := by decide +kernel
theorem lf_398 : ft 193 398 = some (.iconst 0, 399, 0) := by decide +kernel
theorem lf_399 : ft 193 399 = some (.ireturn, 400, 0) := by decide +kernel
theorem lf_400 : ft 193 400 = some (.aload_n 1, 401, 0) := by decide +kernel
theorem lf_401 : ft 193 401 = some (.aload_n 0, 402, 0) := by decide +kernel
theorem lf_402 : ft 193 402 = some (.iload_n 3, 403, 0) := by decide +kernel
theorem lf_403 : ft 193 403 = some (.iconst 1, 404, 0) := by decide +kernel
theorem lf_404 : ft 193 404 = some (.iadd, 405, 0) := by decide +kernel
theorem lf_405 : ft 193 405 = some (.iaload, 406, 0) := by decide +kernel
theorem lf_406 : ft 193 406 = some (.invokevirtual 41, 409, 89) := by decide +kernel
theorem lf_409 : ft 193 409 = some (.aload_n 2, 410, 0) := by decide +kernel
theorem lf_410 : ft 193 410 = some (.aload_n 0, 411, 0) := by decide +kernel
theorem lf_411 : ft 193 411 = some (.iload_n 3, 412, 0) := by decide +kernel
theorem lf_412 : ft 193 412 = some (.iconst 1, 413, 0) := by decide +kernel
theorem lf_413 : ft 193 413 = some (.iadd, 414, 0) := by decide +kernel
theorem lf_414 : ft 193 414 = some (.iaload, 415, 0) := by decide +kernel
theorem lf_415 : ft 193 415 = some (.invokevirtual 44, 418, 137) := by decide +kernel
theorem lf_418 : ft 193 418 = some (.if_icmp .eq 552, 421, 970) := by decide +kernel
theorem lf_421 : ft 193 421 = some (.iconst 0, 422, 0) := by decide +kernel
theorem lf_422 : ft 193 422 = some (.ireturn, 423, 0) := by decide +kernel
theorem lf_423 : ft 193 423 = some (.aload_n 1, 424, 0) := by decide +kernel
theorem lf_424 : ft 193 424 = some (.aload_n 0, 425, 0) := by decide +kernel
theorem lf_425 : ft 193 425 = some (.iload_n 3, 426, 0) := by decide +kernel
theorem lf_426 : ft 193 426 = some (.iconst 1, 427, 0) := by decide +kernel
theorem lf_427 : ft 193 427 = some (.iadd, 428, 0) := by decide +kernel
theorem lf_428 : ft 193 428 = some (.iaload, 429, 0) := by decide +kernel
theorem lf_429 : ft 193 429 = some (.aload_n 0, 430, 0) := by decide +kernel
theorem lf_430 : ft 193 430 = some (.iload_n 3, 431, 0) := by decide +kernel
theorem lf_431 : ft 193 431 = some (.iconst 2, 432, 0) := by decide +kernel
theorem lf_432 : ft 193 432 = some (.iadd, 433, 0) := by decide +kernel
theorem lf_433 : ft 193 433 = some (.iaload, 434, 0) := by decide +kernel
theorem lf_434 : ft 193 434 = some (.invokevirtual 45, 437, 90) := by decide +kernel
theorem lf_437 : ft 193 437 = some (.aload_n 2, 438, 0) := by decide +kernel
theorem lf_438 : ft 193 438 = some (.aload_n 0, 439, 0) := by decide +kernel
theorem lf_439 : ft 193 439 = some (.iload_n 3, 440, 0) := by decide +kernel
theorem lf_440 : ft 193 440 = some (.iconst 1, 441, 0) := by decide +kernel
theorem lf_441 : ft 193 441 = some (.iadd, 442, 0) := by decide +kernel
theorem lf_442 : ft 193 442 = some (.iaload, 443, 0) := by decide +kernel
theorem lf_443 : ft 193 443 = some (.aload_n 0, 444, 0) := by decide +kernel
theorem lf_444 : ft 193 444 = some (.iload_n 3, 445, 0) := by decide +kernel
theorem lf_445 : ft 193 445 = some (.iconst 2, 446, 0) := by decide +kernel
theorem lf_446 : ft 193 446 = some (.iadd, 447, 0) := by decide +kernel
theorem lf_447 : ft 193 447 = some (.iaload, 448, 0) := by decide +kernel
theorem lf_448 : ft 193 448 = some (.invokevirtual 49, 451, 138) := by decide +kernel
theorem lf_451 : ft 193 451 = some (.if_icmp .eq 519, 454, 970) := by decide +kernel
theorem lf_454 : ft 193 454 = some (.iconst 0, 455, 0) := by decide +kernel
theorem lf_455 : ft 193 455 = some (.ireturn, 456, 0) := by decide +kernel
theorem lf_456 : ft 193 456 = some (.aload_n 1, 457, 0) := by decide +kernel
theorem lf_457 : ft 193 457 = some (.invokevirtual 50, 460, 91) := by decide +kernel
theorem lf_460 : ft 193 460 = some (.aload_n 2, 461, 0) := by decide +kernel
theorem lf_461 : ft 193 461 = some (.invokevirtual 54, 464, 139) := by decide +kernel
theorem lf_464 : ft 193 464 = some (.if_icmp .eq 506, 467, 970) := by decide +kernel
theorem lf_467 : ft 193 467 = some (.iconst 0, 468, 0) := by decide +kernel
theorem lf_468 : ft 193 468 = some (.ireturn, 469, 0) := by decide +kernel
theorem lf_469 : ft 193 469 = some (.aload_n 1, 470, 0) := by decide +kernel
theorem lf_470 : ft 193 470 = some (.aload_n 0, 471, 0) := by decide +kernel
theorem lf_471 : ft 193 471 = some (.iload_n 3, 472, 0) := by decide +kernel
theorem lf_472 : ft 193 472 = some (.iconst 1, 473, 0) := by decide +kernel
theorem lf_473 : ft 193 473 = some (.iadd, 474, 0) := by decide +kernel
theorem lf_474 : ft 193 474 = some (.iaload, 475, 0) := by decide +kernel
theorem lf_475 : ft 193 475 = some (.aload_n 0, 476, 0) := by decide +kernel
theorem lf_476 : ft 193 476 = some (.iload_n 3, 477, 0) := by decide +kernel
theorem lf_477 : ft 193 477 = some (.iconst 2, 478, 0) := by decide +kernel
theorem lf_478 : ft 193 478 = some (.iadd, 479, 0) := by decide +kernel
theorem lf_479 : ft 193 479 = some (.iaload, 480, 0) := by decide +kernel
theorem lf_480 : ft 193 480 = some (.invokevirtual 55, 483, 92) := by decide +kernel
theorem lf_483 : ft 193 483 = some (.aload_n 2, 484, 0) := by decide +kernel
theorem lf_484 : ft 193 484 = some (.aload_n 0, 485, 0) := by decide +kernel
theorem lf_485 : ft 193 485 = some (.iload_n 3, 486, 0) := by decide +kernel
theorem lf_486 : ft 193 486 = some (.iconst 1, 487, 0) := by decide +kernel
theorem lf_487 : ft 193 487 = some (.iadd, 488, 0) := by decide +kernel
theorem lf_488 : ft 193 488 = some (.iaload, 489, 0) := by decide +kernel
theorem lf_489 : ft 193 489 = some (.aload_n 0, 490, 0) := by decide +kernel
theorem lf_490 : ft 193 490 = some (.iload_n 3, 491, 0) := by decide +kernel
theorem lf_491 : ft 193 491 = some (.iconst 2, 492, 0) := by decide +kernel
theorem lf_492 : ft 193 492 = some (.iadd, 493, 0) := by decide +kernel
theorem lf_493 : ft 193 493 = some (.iaload, 494, 0) := by decide +kernel
theorem lf_494 : ft 193 494 = some (.invokevirtual 58, 497, 150) := by decide +kernel
theorem lf_497 : ft 193 497 = some (.if_icmp .eq 473, 500, 970) := by decide +kernel
theorem lf_500 : ft 193 500 = some (.iconst 0, 501, 0) := by decide +kernel
theorem lf_501 : ft 193 501 = some (.ireturn, 502, 0) := by decide +kernel
theorem lf_502 : ft 193 502 = some (.aload_n 1, 503, 0) := by decide +kernel
theorem lf_503 : ft 193 503 = some (.aload_n 0, 504, 0) := by decide +kernel
theorem lf_504 : ft 193 504 = some (.iload_n 3, 505, 0) := by decide +kernel
theorem lf_505 : ft 193 505 = some (.iconst 1, 506, 0) := by decide +kernel
theorem lf_506 : ft 193 506 = some (.iadd, 507, 0) := by decide +kernel
theorem lf_507 : ft 193 507 = some (.iaload, 508, 0) := by decide +kernel
theorem lf_508 : ft 193 508 = some (.invokevirtual 59, 511, 93) := by decide +kernel
theorem lf_511 : ft 193 511 = some (.aload_n 2, 512, 0) := by decide +kernel
theorem lf_512 : ft 193 512 = some (.aload_n 0, 513, 0) := by decide +kernel
theorem lf_513 : ft 193 513 = some (.iload_n 3, 514, 0) := by decide +kernel
theorem lf_514 : ft 193 514 = some (.iconst 1, 515, 0) := by decide +kernel
theorem lf_515 : ft 193 515 = some (.iadd, 516, 0) := by decide +kernel
theorem lf_516 : ft 193 516 = some (.iaload, 517, 0) := by decide +kernel
theorem lf_517 : ft 193 517 = some (.invokevirtual 62, 520, 151) := by decide +kernel
theorem lf_520 : ft 193 520 = some (.if_icmp .eq 450, 523, 970) := by decide +kernel
theorem lf_523 : ft 193 523 = some (.iconst 0, 524, 0) := by decide +kernel
theorem lf_524 : ft 193 524 = some (.ireturn, 525, 0) := by decide +kernel
theorem lf_525 : ft 193 525 = some (.aload_n 1, 526, 0) := by decide +kernel
theorem lf_526 : ft 193 526 = some (.aload_n 0, 527, 0) := by decide +kernel
theorem lf_527 : ft 193 527 = some (.iload_n 3, 528, 0) := by decide +kernel
theorem lf_528 : ft 193 528 = some (.iconst 1, 529, 0) := by decide +kernel
theorem lf_529 : ft 193 529 = some (.iadd, 530, 0) := by decide +kernel
theorem lf_530 : ft 193 530 = some (.iaload, 531, 0) := by decide +kernel
theorem lf_531 : ft 193 531 = some (.aload_n 0, 532, 0) := by decide +kernel
theorem lf_532 : ft 193 532 = some (.iload_n 3, 533, 0) := by decide +kernel
theorem lf_533 : ft 193 533 = some (.iconst 2, 534, 0) := by decide +kernel
theorem lf_534 : ft 193 534 = some (.iadd, 535, 0) := by decide +kernel
theorem lf_535 : ft 193 535 = some (.iaload, 536, 0) := by decide +kernel
theorem lf_536 : ft 193 536 = some (.invokevirtual 63, 539, 94) := by decide +kernel
theorem lf_539 : ft 193 539 = some (.aload_n 2, 540, 0) := by decide +kernel
theorem lf_540 : ft 193 540 = some (.aload_n 0, 541, 0) := by decide +kernel
theorem lf_541 : ft 193 541 = some (.iload_n 3, 542, 0) := by decide +kernel
theorem lf_542 : ft 193 542 = some (.iconst 1, 543, 0) := by decide +kernel
theorem lf_543 : ft 193 543 = some (.iadd, 544, 0) := by decide +kernel
theorem lf_544 : ft 193 544 = some (.iaload, 545, 0) := by decide +kernel
theorem lf_545 : ft 193 545 = some (.aload_n 0, 546, 0) := by decide +kernel
theorem lf_546 : ft 193 546 = some (.iload_n 3, 547, 0) := by decide +kernel
theorem lf_547 : ft 193 547 = some (.iconst 2, 548, 0) := by decide +kernel
theorem lf_548 : ft 193 548 = some (.iadd, 549, 0) := by decide +kernel
theorem lf_549 : ft 193 549 = some (.iaload, 550, 0) := by decide +kernel
theorem lf_550 : ft 193 550 = some (.invokevirtual 66, 553, 154) := by decide +kernel
theorem lf_553 : ft 193 553 = some (.if_icmp .eq 417, 556, 970) := by decide +kernel
theorem lf_556 : ft 193 556 = some (.iconst 0, 557, 0) := by decide +kernel
theorem lf_557 : ft 193 557 = some (.ireturn, 558, 0) := by decide +kernel
theorem lf_558 : ft 193 558 = some (.aload_n 1, 559, 0) := by decide +kernel
theorem lf_559 : ft 193 559 = some (.invokevirtual 67, 562, 95) := by decide +kernel
theorem lf_562 : ft 193 562 = some (.aload_n 2, 563, 0) := by decide +kernel
theorem lf_563 : ft 193 563 = some (.invokevirtual 70, 566, 156) := by decide +kernel
theorem lf_566 : ft 193 566 = some (.if_icmp .eq 404, 569, 970) := by decide +kernel
theorem lf_569 : ft 193 569 = some (.iconst 0, 570, 0) := by decide +kernel
theorem lf_570 : ft 193 570 = some (.ireturn, 571, 0) := by decide +kernel
theorem lf_571 : ft 193 571 = some (.aload_n 1, 572, 0) := by decide +kernel
theorem lf_572 : ft 193 572 = some (.aload_n 0, 573, 0) := by decide +kernel
theorem lf_573 : ft 193 573 = some (.iload_n 3, 574, 0) := by decide +kernel
theorem lf_574 : ft 193 574 = some (.iconst 1, 575, 0) := by decide +kernel
theorem lf_575 : ft 193 575 = some (.iadd, 576, 0) := by decide +kernel
theorem lf_576 : ft 193 576 = some (.iaload, 577, 0) := by decide +kernel
theorem lf_577 : ft 193 577 = some (.aload_n 0, 578, 0) := by decide +kernel
theorem lf_578 : ft 193 578 = some (.iload_n 3, 579, 0) := by decide +kernel
theorem lf_579 : ft 193 579 = some (.iconst 2, 580, 0) := by decide +kernel
theorem lf_580 : ft 193 580 = some (.iadd, 581, 0) := by decide +kernel
theorem lf_581 : ft 193 581 = some (.iaload, 582, 0) := by decide +kernel
theorem lf_582 : ft 193 582 = some (.aload_n 0, 583, 0) := by decide +kernel
theorem lf_583 : ft 193 583 = some (.iload_n 3, 584, 0) := by decide +kernel
theorem lf_584 : ft 193 584 = some (.iconst 3, 585, 0) := by decide +kernel
theorem lf_585 : ft 193 585 = some (.iadd, 586, 0) := by decide +kernel
theorem lf_586 : ft 193 586 = some (.iaload, 587, 0) := by decide +kernel
theorem lf_587 : ft 193 587 = some (.invokevirtual 71, 590, 96) := by decide +kernel
theorem lf_590 : ft 193 590 = some (.aload_n 2, 591, 0) := by decide +kernel
theorem lf_591 : ft 193 591 = some (.aload_n 0, 592, 0) := by decide +kernel
theorem lf_592 : ft 193 592 = some (.iload_n 3, 593, 0) := by decide +kernel
theorem lf_593 : ft 193 593 = some (.iconst 1, 594, 0) := by decide +kernel
theorem lf_594 : ft 193 594 = some (.iadd, 595, 0) := by decide +kernel
theorem lf_595 : ft 193 595 = some (.iaload, 596, 0) := by decide +kernel
theorem lf_596 : ft 193 596 = some (.aload_n 0, 597, 0) := by decide +kernel
theorem lf_597 : ft 193 597 = some (.iload_n 3, 598, 0) := by decide +kernel
theorem lf_598 : ft 193 598 = some (.iconst 2, 599, 0) := by decide +kernel
theorem lf_599 : ft 193 599 = some (.iadd, 600, 0) := by decide +kernel
theorem lf_600 : ft 193 600 = some (.iaload, 601, 0) := by decide +kernel
theorem lf_601 : ft 193 601 = some (.aload_n 0, 602, 0) := by decide +kernel
theorem lf_602 : ft 193 602 = some (.iload_n 3, 603, 0) := by decide +kernel
theorem lf_603 : ft 193 603 = some (.iconst 3, 604, 0) := by decide +kernel
theorem lf_604 : ft 193 604 = some (.iadd, 605, 0) := by decide +kernel
theorem lf_605 : ft 193 605 = some (.iaload, 606, 0) := by decide +kernel
theorem lf_606 : ft 193 606 = some (.invokevirtual 74, 609, 160) := by decide +kernel
theorem lf_609 : ft 193 609 = some (.if_icmp .eq 361, 612, 970) := by decide +kernel
theorem lf_612 : ft 193 612 = some (.iconst 0, 613, 0) := by decide +kernel
theorem lf_613 : ft 193 613 = some (.ireturn, 614, 0) := by decide +kernel
theorem lf_614 : ft 193 614 = some (.aload_n 1, 615, 0) := by decide +kernel
theorem lf_615 : ft 193 615 = some (.aload_n 0, 616, 0) := by decide +kernel
theorem lf_616 : ft 193 616 = some (.iload_n 3, 617, 0) := by decide +kernel
theorem lf_617 : ft 193 617 = some (.iconst 1, 618, 0) := by decide +kernel
theorem lf_618 : ft 193 618 = some (.iadd, 619, 0) := by decide +kernel
theorem lf_619 : ft 193 619 = some (.iaload, 620, 0) := by decide +kernel
theorem lf_620 : ft 193 620 = some (.aload_n 0, 621, 0) := by decide +kernel
theorem lf_621 : ft 193 621 = some (.iload_n 3, 622, 0) := by decide +kernel
theorem lf_622 : ft 193 622 = some (.iconst 2, 623, 0) := by decide +kernel
theorem lf_623 : ft 193 623 = some (.iadd, 624, 0) := by decide +kernel
theorem lf_624 : ft 193 624 = some (.iaload, 625, 0) := by decide +kernel
theorem lf_625 : ft 193 625 = some (.aload_n 0, 626, 0) := by decide +kernel
theorem lf_626 : ft 193 626 = some (.iload_n 3, 627, 0) := by decide +kernel
theorem lf_627 : ft 193 627 = some (.iconst 3, 628, 0) := by decide +kernel
theorem lf_628 : ft 193 628 = some (.iadd, 629, 0) := by decide +kernel
theorem lf_629 : ft 193 629 = some (.iaload, 630, 0) := by decide +kernel
theorem lf_630 : ft 193 630 = some (.aload_n 0, 631, 0) := by decide +kernel
theorem lf_631 : ft 193 631 = some (.iload_n 3, 632, 0) := by decide +kernel
theorem lf_632 : ft 193 632 = some (.iconst 4, 633, 0) := by decide +kernel
theorem lf_633 : ft 193 633 = some (.iadd, 634, 0) := by decide +kernel
theorem lf_634 : ft 193 634 = some (.iaload, 635, 0) := by decide +kernel
theorem lf_635 : ft 193 635 = some (.invokevirtual 75, 638, 97) := by decide +kernel
theorem lf_638 : ft 193 638 = some (.aload_n 2, 639, 0) := by decide +kernel
theorem lf_639 : ft 193 639 = some (.aload_n 0, 640, 0) := by decide +kernel
theorem lf_640 : ft 193 640 = some (.iload_n 3, 641, 0) := by decide +kernel
theorem lf_641 : ft 193 641 = some (.iconst 1, 642, 0) := by decide +kernel
theorem lf_642 : ft 193 642 = some (.iadd, 643, 0) := by decide +kernel
theorem lf_643 : ft 193 643 = some (.iaload, 644, 0) := by decide +kernel
theorem lf_644 : ft 193 644 = some (.aload_n 0, 645, 0) := by decide +kernel
theorem lf_645 : ft 193 645 = some (.iload_n 3, 646, 0) := by decide +kernel
theorem lf_646 : ft 193 646 = some (.iconst 2, 647, 0) := by decide +kernel
theorem lf_647 : ft 193 647 = some (.iadd, 648, 0) := by decide +kernel
theorem lf_648 : ft 193 648 = some (.iaload, 649, 0) := by decide +kernel
theorem lf_649 : ft 193 649 = some (.aload_n 0, 650, 0) := by decide +kernel
theorem lf_650 : ft 193 650 = some (.iload_n 3, 651, 0) := by decide +kernel
theorem lf_651 : ft 193 651 = some (.iconst 3, 652, 0) := by decide +kernel
theorem lf_652 : ft 193 652 = some (.iadd, 653, 0) := by decide +kernel
theorem lf_653 : ft 193 653 = some (.iaload, 654, 0) := by decide +kernel
theorem lf_654 : ft 193 654 = some (.aload_n 0, 655, 0) := by decide +kernel
theorem lf_655 : ft 193 655 = some (.iload_n 3, 656, 0) := by decide +kernel
theorem lf_656 : ft 193 656 = some (.iconst 4, 657, 0) := by decide +kernel
theorem lf_657 : ft 193 657 = some (.iadd, 658, 0) := by decide +kernel
theorem lf_658 : ft 193 658 = some (.iaload, 659, 0) := by decide +kernel
theorem lf_659 : ft 193 659 = some (.invokevirtual 78, 662, 161) := by decide +kernel
theorem lf_662 : ft 193 662 = some (.if_icmp .eq 308, 665, 970) := by decide +kernel
theorem lf_665 : ft 193 665 = some (.iconst 0, 666, 0) := by decide +kernel
theorem lf_666 : ft 193 666 = some (.ireturn, 667, 0) := by decide +kernel
theorem lf_667 : ft 193 667 = some (.aload_n 1, 668, 0) := by decide +kernel
theorem lf_668 : ft 193 668 = some (.aload_n 0, 669, 0) := by decide +kernel
theorem lf_669 : ft 193 669 = some (.iload_n 3, 670, 0) := by decide +kernel
theorem lf_670 : ft 193 670 = some (.iconst 1, 671, 0) := by decide +kernel
theorem lf_671 : ft 193 671 = some (.iadd, 672, 0) := by decide +kernel
theorem lf_672 : ft 193 672 = some (.iaload, 673, 0) := by decide +kernel
theorem lf_673 : ft 193 673 = some (.aload_n 0, 674, 0) := by decide +kernel
theorem lf_674 : ft 193 674 = some (.iload_n 3, 675, 0) := by decide +kernel
theorem lf_675 : ft 193 675 = some (.iconst 2, 676, 0) := by decide +kernel
theorem lf_676 : ft 193 676 = some (.iadd, 677, 0) := by decide +kernel
theorem lf_677 : ft 193 677 = some (.iaload, 678, 0) := by decide +kernel
theorem lf_678 : ft 193 678 = some (.aload_n 0, 679, 0) := by decide +kernel
theorem lf_679 : ft 193 679 = some (.iload_n 3, 680, 0) := by decide +kernel
theorem lf_680 : ft 193 680 = some (.iconst 3, 681, 0) := by decide +kernel
theorem lf_681 : ft 193 681 = some (.iadd, 682, 0) := by decide +kernel
theorem lf_682 : ft 193 682 = some (.iaload, 683, 0) := by decide +kernel
theorem lf_683 : ft 193 683 = some (.invokevirtual 79, 686, 98) := by decide +kernel
theorem lf_686 : ft 193 686 = some (.aload_n 2, 687, 0) := by decide +kernel
theorem lf_687 : ft 193 687 = some (.aload_n 0, 688, 0) := by decide +kernel
theorem lf_688 : ft 193 688 = some (.iload_n 3, 689, 0) := by decide +kernel
theorem lf_689 : ft 193 689 = some (.iconst 1, 690, 0) := by decide +kernel
theorem lf_690 : ft 193 690 = some (.iadd, 691, 0) := by decide +kernel
theorem lf_691 : ft 193 691 = some (.iaload, 692, 0) := by decide +kernel
theorem lf_692 : ft 193 692 = some (.aload_n 0, 693, 0) := by decide +kernel
theorem lf_693 : ft 193 693 = some (.iload_n 3, 694, 0) := by decide +kernel
theorem lf_694 : ft 193 694 = some (.iconst 2, 695, 0) := by decide +kernel
theorem lf_695 : ft 193 695 = some (.iadd, 696, 0) := by decide +kernel
theorem lf_696 : ft 193 696 = some (.iaload, 697, 0) := by decide +kernel
theorem lf_697 : ft 193 697 = some (.aload_n 0, 698, 0) := by decide +kernel
theorem lf_698 : ft 193 698 = some (.iload_n 3, 699, 0) := by decide +kernel
theorem lf_699 : ft 193 699 = some (.iconst 3, 700, 0) := by decide +kernel
theorem lf_700 : ft 193 700 = some (.iadd, 701, 0) := by decide +kernel
theorem lf_701 : ft 193 701 = some (.iaload, 702, 0) := by decide +kernel
theorem lf_702 : ft 193 702 = some (.invokevirtual 82, 705, 162) := by decide +kernel
theorem lf_705 : ft 193 705 = some (.if_icmp .eq 265, 708, 970) := by decide +kernel
theorem lf_708 : ft 193 708 = some (.iconst 0, 709, 0) := by decide +kernel
theorem lf_709 : ft 193 709 = some (.ireturn, 710, 0) := by decide +kernel
theorem lf_710 : ft 193 710 = some (.aload_n 1, 711, 0) := by decide +kernel
theorem lf_711 : ft 193 711 = some (.aload_n 0, 712, 0) := by decide +kernel
theorem lf_712 : ft 193 712 = some (.iload_n 3, 713, 0) := by decide +kernel
theorem lf_713 : ft 193 713 = some (.iconst 1, 714, 0) := by decide +kernel
theorem lf_714 : ft 193 714 = some (.iadd, 715, 0) := by decide +kernel
theorem lf_715 : ft 193 715 = some (.iaload, 716, 0) := by decide +kernel
theorem lf_716 : ft 193 716 = some (.aload_n 0, 717, 0) := by decide +kernel
theorem lf_717 : ft 193 717 = some (.iload_n 3, 718, 0) := by decide +kernel
theorem lf_718 : ft 193 718 = some (.iconst 2, 719, 0) := by decide +kernel
theorem lf_719 : ft 193 719 = some (.iadd, 720, 0) := by decide +kernel
theorem lf_720 : ft 193 720 = some (.iaload, 721, 0) := by decide +kernel
theorem lf_721 : ft 193 721 = some (.invokevirtual 83, 724, 99) := by decide +kernel
theorem lf_724 : ft 193 724 = some (.aload_n 2, 725, 0) := by decide +kernel
theorem lf_725 : ft 193 725 = some (.aload_n 0, 726, 0) := by decide +kernel
theorem lf_726 : ft 193 726 = some (.iload_n 3, 727, 0) := by decide +kernel
theorem lf_727 : ft 193 727 = some (.iconst 1, 728, 0) := by decide +kernel
theorem lf_728 : ft 193 728 = some (.iadd, 729, 0) := by decide +kernel
theorem lf_729 : ft 193 729 = some (.iaload, 730, 0) := by decide +kernel
theorem lf_730 : ft 193 730 = some (.aload_n 0, 731, 0) := by decide +kernel
theorem lf_731 : ft 193 731 = some (.iload_n 3, 732, 0) := by decide +kernel
theorem lf_732 : ft 193 732 = some (.iconst 2, 733, 0) := by decide +kernel
theorem lf_733 : ft 193 733 = some (.iadd, 734, 0) := by decide +kernel
theorem lf_734 : ft 193 734 = some (.iaload, 735, 0) := by decide +kernel
theorem lf_735 : ft 193 735 = some (.invokevirtual 86, 738, 173) := by decide +kernel
theorem lf_738 : ft 193 738 = some (.if_icmp .eq 232, 741, 970) := by decide +kernel
theorem lf_741 : ft 193 741 = some (.iconst 0, 742, 0) := by decide +kernel
theorem lf_742 : ft 193 742 = some (.ireturn, 743, 0) := by decide +kernel
theorem lf_743 : ft 193 743 = some (.aload_n 1, 744, 0) := by decide +kernel
theorem lf_744 : ft 193 744 = some (.aload_n 0, 745, 0) := by decide +kernel
theorem lf_745 : ft 193 745 = some (.iload_n 3, 746, 0) := by decide +kernel
theorem lf_746 : ft 193 746 = some (.iconst 1, 747, 0) := by decide +kernel
theorem lf_747 : ft 193 747 = some (.iadd, 748, 0) := by decide +kernel
theorem lf_748 : ft 193 748 = some (.iaload, 749, 0) := by decide +kernel
theorem lf_749 : ft 193 749 = some (.aload_n 0, 750, 0) := by decide +kernel
theorem lf_750 : ft 193 750 = some (.iload_n 3, 751, 0) := by decide +kernel
theorem lf_751 : ft 193 751 = some (.iconst 2, 752, 0) := by decide +kernel
theorem lf_752 : ft 193 752 = some (.iadd, 753, 0) := by decide +kernel
theorem lf_753 : ft 193 753 = some (.iaload, 754, 0) := by decide +kernel
theorem lf_754 : ft 193 754 = some (.invokevirtual 87, 757, 100) := by decide +kernel
theorem lf_757 : ft 193 757 = some (.aload_n 2, 758, 0) := by decide +kernel
theorem lf_758 : ft 193 758 = some (.aload_n 0, 759, 0) := by decide +kernel
theorem lf_759 : ft 193 759 = some (.iload_n 3, 760, 0) := by decide +kernel
theorem lf_760 : ft 193 760 = some (.iconst 1, 761, 0) := by decide +kernel
theorem lf_761 : ft 193 761 = some (.iadd, 762, 0) := by decide +kernel
theorem lf_762 : ft 193 762 = some (.iaload, 763, 0) := by decide +kernel
theorem lf_763 : ft 193 763 = some (.aload_n 0, 764, 0) := by decide +kernel
theorem lf_764 : ft 193 764 = some (.iload_n 3, 765, 0) := by decide +kernel
theorem lf_765 : ft 193 765 = some (.iconst 2, 766, 0) := by decide +kernel
theorem lf_766 : ft 193 766 = some (.iadd, 767, 0) := by decide +kernel
theorem lf_767 : ft 193 767 = some (.iaload, 768, 0) := by decide +kernel
theorem lf_768 : ft 193 768 = some (.invokevirtual 90, 771, 174) := by decide +kernel
theorem lf_771 : ft 193 771 = some (.if_icmp .eq 199, 774, 970) := by decide +kernel
theorem lf_774 : ft 193 774 = some (.iconst 0, 775, 0) := by decide +kernel
theorem lf_775 : ft 193 775 = some (.ireturn, 776, 0) := by decide +kernel
theorem lf_776 : ft 193 776 = some (.aload_n 1, 777, 0) := by decide +kernel
theorem lf_777 : ft 193 777 = some (.invokevirtual 91, 780, 101) := by decide +kernel
theorem lf_780 : ft 193 780 = some (.aload_n 2, 781, 0) := by decide +kernel
theorem lf_781 : ft 193 781 = some (.invokevirtual 94, 784, 175) := by decide +kernel
theorem lf_784 : ft 193 784 = some (.if_icmp .eq 186, 787, 970) := by decide +kernel
theorem lf_787 : ft 193 787 = some (.iconst 0, 788, 0) := by decide +kernel
theorem lf_788 : ft 193 788 = some (.ireturn, 789, 0) := by decide +kernel
theorem lf_789 : ft 193 789 = some (.aload_n 1, 790, 0) := by decide +kernel
theorem lf_790 : ft 193 790 = some (.invokevirtual 95, 793, 102) := by decide +kernel
theorem lf_793 : ft 193 793 = some (.aload_n 2, 794, 0) := by decide +kernel
theorem lf_794 : ft 193 794 = some (.invokevirtual 98, 797, 177) := by decide +kernel
theorem lf_797 : ft 193 797 = some (.if_icmp .eq 173, 800, 970) := by decide +kernel
theorem lf_800 : ft 193 800 = some (.iconst 0, 801, 0) := by decide +kernel
theorem lf_801 : ft 193 801 = some (.ireturn, 802, 0) := by decide +kernel
theorem lf_802 : ft 193 802 = some (.aload_n 1, 803, 0) := by decide +kernel
theorem lf_803 : ft 193 803 = some (.aload_n 0, 804, 0) := by decide +kernel
theorem lf_804 : ft 193 804 = some (.iload_n 3, 805, 0) := by decide +kernel
theorem lf_805 : ft 193 805 = some (.iconst 1, 806, 0) := by decide +kernel
theorem lf_806 : ft 193 806 = some (.iadd, 807, 0) := by decide +kernel
theorem lf_807 : ft 193 807 = some (.iaload, 808, 0) := by decide +kernel
theorem lf_808 : ft 193 808 = some (.aload_n 0, 809, 0) := by decide +kernel
theorem lf_809 : ft 193 809 = some (.iload_n 3, 810, 0) := by decide +kernel
theorem lf_810 : ft 193 810 = some (.iconst 2, 811, 0) := by decide +kernel
theorem lf_811 : ft 193 811 = some (.iadd, 812, 0) := by decide +kernel
theorem lf_812 : ft 193 812 = some (.iaload, 813, 0) := by decide +kernel
theorem lf_813 : ft 193 813 = some (.invokevirtual 99, 816, 103) := by decide +kernel
theorem lf_816 : ft 193 816 = some (.aload_n 2, 817, 0) := by decide +kernel
theorem lf_817 : ft 193 817 = some (.aload_n 0, 818, 0) := by decide +kernel
theorem lf_818 : ft 193 818 = some (.iload_n 3, 819, 0) := by decide +kernel
theorem lf_819 : ft 193 819 = some (.iconst 1, 820, 0) := by decide +kernel
theorem lf_820 : ft 193 820 = some (.iadd, 821, 0) := by decide +kernel
theorem lf_821 : ft 193 821 = some (.iaload, 822, 0) := by decide +kernel
theorem lf_822 : ft 193 822 = some (.aload_n 0, 823, 0) := by decide +kernel
theorem lf_823 : ft 193 823 = some (.iload_n 3, 824, 0) := by decide +kernel
theorem lf_824 : ft 193 824 = some (.iconst 2, 825, 0) := by decide +kernel
theorem lf_825 : ft 193 825 = some (.iadd, 826, 0) := by decide +kernel
theorem lf_826 : ft 193 826 = some (.iaload, 827, 0) := by decide +kernel
theorem lf_827 : ft 193 827 = some (.invokevirtual 102, 830, 178) := by decide +kernel
theorem lf_830 : ft 193 830 = some (.if_icmp .eq 140, 833, 970) := by decide +kernel
theorem lf_833 : ft 193 833 = some (.iconst 0, 834, 0) := by decide +kernel
theorem lf_834 : ft 193 834 = some (.ireturn, 835, 0) := by decide +kernel
theorem lf_835 : ft 193 835 = some (.aload_n 1, 836, 0) := by decide +kernel
theorem lf_836 : ft 193 836 = some (.aload_n 0, 837, 0) := by decide +kernel
theorem lf_837 : ft 193 837 = some (.iload_n 3, 838, 0) := by decide +kernel
theorem lf_838 : ft 193 838 = some (.iconst 1, 839, 0) := by decide +kernel
theorem lf_839 : ft 193 839 = some (.iadd, 840, 0) := by decide +kernel
theorem lf_840 : ft 193 840 = some (.iaload, 841, 0) := by decide +kernel
theorem lf_841 : ft 193 841 = some (.aload_n 0, 842, 0) := by decide +kernel
theorem lf_842 : ft 193 842 = some (.iload_n 3, 843, 0) := by decide +kernel
theorem lf_843 : ft 193 843 = some (.iconst 2, 844, 0) := by decide +kernel
theorem lf_844 : ft 193 844 = some (.iadd, 845, 0) := by decide +kernel
theorem lf_845 : ft 193 845 = some (.iaload, 846, 0) := by decide +kernel
theorem lf_846 : ft 193 846 = some (.invokevirtual 103, 849, 104) := by decide +kernel
theorem lf_849 : ft 193 849 = some (.aload_n 2, 850, 0) := by decide +kernel
theorem lf_850 : ft 193 850 = some (.aload_n 0, 851, 0) := by decide +kernel
theorem lf_851 : ft 193 851 = some (.iload_n 3, 852, 0) := by decide +kernel
theorem lf_852 : ft 193 852 = some (.iconst 1, 853, 0) := by decide +kernel
theorem lf_853 : ft 193 853 = some (.iadd, 854, 0) := by decide +kernel
theorem lf_854 : ft 193 854 = some (.iaload, 855, 0) := by decide +kernel
theorem lf_855 : ft 193 855 = some (.aload_n 0, 856, 0) := by decide +kernel
theorem lf_856 : ft 193 856 = some (.iload_n 3, 857, 0) := by decide +kernel
theorem lf_857 : ft 193 857 = some (.iconst 2, 858, 0) := by decide +kernel
theorem lf_858 : ft 193 858 = some (.iadd, 859, 0) := by decide +kernel
theorem lf_859 : ft 193 859 = some (.iaload, 860, 0) := by decide +kernel
theorem lf_860 : ft 193 860 = some (.invokevirtual 106, 863, 179) := by decide +kernel
theorem lf_863 : ft 193 863 = some (.if_icmp .eq 107, 866, 970) := by decide +kernel
theorem lf_866 : ft 193 866 = some (.iconst 0, 867, 0) := by decide +kernel
theorem lf_867 : ft 193 867 = some (.ireturn, 868, 0) := by decide +kernel
theorem lf_868 : ft 193 868 = some (.aload_n 1, 869, 0) := by decide +kernel
theorem lf_869 : ft 193 869 = some (.aload_n 0, 870, 0) := by decide +kernel
theorem lf_870 : ft 193 870 = some (.iload_n 3, 871, 0) := by decide +kernel
theorem lf_871 : ft 193 871 = some (.iconst 1, 872, 0) := by decide +kernel
theorem lf_872 : ft 193 872 = some (.iadd, 873, 0) := by decide +kernel
theorem lf_873 : ft 193 873 = some (.iaload, 874, 0) := by decide +kernel
theorem lf_874 : ft 193 874 = some (.invokevirtual 107, 877, 105) := by decide +kernel
theorem lf_877 : ft 193 877 = some (.aload_n 2, 878, 0) := by decide +kernel
theorem lf_878 : ft 193 878 = some (.aload_n 0, 879, 0) := by decide +kernel
theorem lf_879 : ft 193 879 = some (.iload_n 3, 880, 0) := by decide +kernel
theorem lf_880 : ft 193 880 = some (.iconst 1, 881, 0) := by decide +kernel
theorem lf_881 : ft 193 881 = some (.iadd, 882, 0) := by decide +kernel
theorem lf_882 : ft 193 882 = some (.iaload, 883, 0) := by decide +kernel
theorem lf_883 : ft 193 883 = some (.invokevirtual 110, 886, 180) := by decide +kernel
theorem lf_886 : ft 193 886 = some (.if_icmp .eq 84, 889, 970) := by decide +kernel
theorem lf_889 : ft 193 889 = some (.iconst 0, 890, 0) := by decide +kernel
theorem lf_890 : ft 193 890 = some (.ireturn, 891, 0) := by decide +kernel
theorem lf_891 : ft 193 891 = some (.aload_n 1, 892, 0) := by decide +kernel
theorem lf_892 : ft 193 892 = some (.aload_n 0, 893, 0) := by decide +kernel
theorem lf_893 : ft 193 893 = some (.iload_n 3, 894, 0) := by decide +kernel
theorem lf_894 : ft 193 894 = some (.iconst 1, 895, 0) := by decide +kernel
theorem lf_895 : ft 193 895 = some (.iadd, 896, 0) := by decide +kernel
theorem lf_896 : ft 193 896 = some (.iaload, 897, 0) := by decide +kernel
theorem lf_897 : ft 193 897 = some (.invokevirtual 111, 900, 106) := by decide +kernel
theorem lf_900 : ft 193 900 = some (.aload_n 2, 901, 0) := by decide +kernel
theorem lf_901 : ft 193 901 = some (.aload_n 0, 902, 0) := by decide +kernel
theorem lf_902 : ft 193 902 = some (.iload_n 3, 903, 0) := by decide +kernel
theorem lf_903 : ft 193 903 = some (.iconst 1, 904, 0) := by decide +kernel
theorem lf_904 : ft 193 904 = some (.iadd, 905, 0) := by decide +kernel
theorem lf_905 : ft 193 905 = some (.iaload, 906, 0) := by decide +kernel
theorem lf_906 : ft 193 906 = some (.invokevirtual 114, 909, 187) := by decide +kernel
theorem lf_909 : ft 193 909 = some (.if_icmp .eq 61, 912, 970) := by decide +kernel
theorem lf_912 : ft 193 912 = some (.iconst 0, 913, 0) := by decide +kernel
theorem lf_913 : ft 193 913 = some (.ireturn, 914, 0) := by decide +kernel
theorem lf_914 : ft 193 914 = some (.aload_n 1, 915, 0) := by decide +kernel
theorem lf_915 : ft 193 915 = some (.aload_n 0, 916, 0) := by decide +kernel
theorem lf_916 : ft 193 916 = some (.iload_n 3, 917, 0) := by decide +kernel
theorem lf_917 : ft 193 917 = some (.iconst 1, 918, 0) := by decide +kernel
theorem lf_918 : ft 193 918 = some (.iadd, 919, 0) := by decide +kernel
theorem lf_919 : ft 193 919 = some (.iaload, 920, 0) := by decide +kernel
theorem lf_920 : ft 193 920 = some (.aload_n 0, 921, 0) := by decide +kernel
theorem lf_921 : ft 193 921 = some (.iload_n 3, 922, 0) := by decide +kernel
theorem lf_922 : ft 193 922 = some (.iconst 2, 923, 0) := by decide +kernel
theorem lf_923 : ft 193 923 = some (.iadd, 924, 0) := by decide +kernel
theorem lf_924 : ft 193 924 = some (.iaload, 925, 0) := by decide +kernel
theorem lf_925 : ft 193 925 = some (.invokevirtual 115, 928, 107) := by decide +kernel
theorem lf_928 : ft 193 928 = some (.aload_n 2, 929, 0) := by decide +kernel
theorem lf_929 : ft 193 929 = some (.aload_n 0, 930, 0) := by decide +kernel
theorem lf_930 : ft 193 930 = some (.iload_n 3, 931, 0) := by decide +kernel
theorem lf_931 : ft 193 931 = some (.iconst 1, 932, 0) := by decide +kernel
theorem lf_932 : ft 193 932 = some (.iadd, 933, 0) := by decide +kernel
theorem lf_933 : ft 193 933 = some (.iaload, 934, 0) := by decide +kernel
theorem lf_934 : ft 193 934 = some (.aload_n 0, 935, 0) := by decide +kernel
theorem lf_935 : ft 193 935 = some (.iload_n 3, 936, 0) := by decide +kernel
theorem lf_936 : ft 193 936 = some (.iconst 2, 937, 0) := by decide +kernel
theorem lf_937 : ft 193 937 = some (.iadd, 938, 0) := by decide +kernel
theorem lf_938 : ft 193 938 = some (.iaload, 939, 0) := by decide +kernel
theorem lf_939 : ft 193 939 = some (.invokevirtual 118, 942, 188) := by decide +kernel
theorem lf_942 : ft 193 942 = some (.if_icmp .eq 28, 945, 970) := by decide +kernel
theorem lf_945 : ft 193 945 = some (.iconst 0, 946, 0) := by decide +kernel
theorem lf_946 : ft 193 946 = some (.ireturn, 947, 0) := by decide +kernel
theorem lf_947 : ft 193 947 = some (.aload_n 1, 948, 0) := by decide +kernel
theorem lf_948 : ft 193 948 = some (.aload_n 0, 949, 0) := by decide +kernel
theorem lf_949 : ft 193 949 = some (.iload_n 3, 950, 0) := by decide +kernel
theorem lf_950 : ft 193 950 = some (.iconst 1, 951, 0) := by decide +kernel
theorem lf_951 : ft 193 951 = some (.iadd, 952, 0) := by decide +kernel
theorem lf_952 : ft 193 952 = some (.iaload, 953, 0) := by decide +kernel
theorem lf_953 : ft 193 953 = some (.invokevirtual 119, 956, 108) := by decide +kernel
theorem lf_956 : ft 193 956 = some (.aload_n 2, 957, 0) := by decide +kernel
theorem lf_957 : ft 193 957 = some (.aload_n 0, 958, 0) := by decide +kernel
theorem lf_958 : ft 193 958 = some (.iload_n 3, 959, 0) := by decide +kernel
theorem lf_959 : ft 193 959 = some (.iconst 1, 960, 0) := by decide +kernel
theorem lf_960 : ft 193 960 = some (.iadd, 961, 0) := by decide +kernel
theorem lf_961 : ft 193 961 = some (.iaload, 962, 0) := by decide +kernel
theorem lf_962 : ft 193 962 = some (.invokevirtual 122, 965, 189) := by decide +kernel
theorem lf_965 : ft 193 965 = some (.if_icmp .eq 5, 968, 970) := by decide +kernel
theorem lf_968 : ft 193 968 = some (.iconst 0, 969, 0) := by decide +kernel
theorem lf_969 : ft 193 969 = some (.ireturn, 970, 0) := by decide +kernel
theorem lf_970 : ft 193 970 = some (.iinc 3 6, 973, 0) := by decide +kernel
theorem lf_973 : ft 193 973 = some (.goto (-955), 976, 18) := by decide +kernel
theorem lf_976 : ft 193 976 = some (.iconst 1, 977, 0) := by decide +kernel
theorem lf_977 : ft 193 977 = some (.ireturn, 978, 0) := by decide +kernel
