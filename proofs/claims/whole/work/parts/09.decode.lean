theorem dL_cell_0 : decode cL_cell 0 = .ok (.iload_n 1, 1) := by decide +kernel
theorem dL_cell_1 : decode cL_cell 1 = .ok (.aload_n 0, 1) := by decide +kernel
theorem dL_cell_2 : decode cL_cell 2 = .ok (.arraylength, 1) := by decide +kernel
theorem dL_cell_3 : decode cL_cell 3 = .ok (.if_icmp .ge 9, 3) := by decide +kernel
theorem dL_cell_6 : decode cL_cell 6 = .ok (.aload_n 0, 1) := by decide +kernel
theorem dL_cell_7 : decode cL_cell 7 = .ok (.iload_n 1, 1) := by decide +kernel
theorem dL_cell_8 : decode cL_cell 8 = .ok (.iaload, 1) := by decide +kernel
theorem dL_cell_9 : decode cL_cell 9 = .ok (.goto 4, 3) := by decide +kernel
theorem dL_cell_12 : decode cL_cell 12 = .ok (.iconst 0, 1) := by decide +kernel
theorem dL_cell_13 : decode cL_cell 13 = .ok (.ireturn, 1) := by decide +kernel
theorem dL_law_0 : decode cL_law 0 = .ok (.new 7, 3) := by decide +kernel
theorem dL_law_3 : decode cL_law 3 = .ok (.dup, 1) := by decide +kernel
theorem dL_law_4 : decode cL_law 4 = .ok (.aload_n 0, 1) := by decide +kernel
theorem dL_law_5 : decode cL_law 5 = .ok (.iconst 0, 1) := by decide +kernel
theorem dL_law_6 : decode cL_law 6 = .ok (.invokestatic 9, 3) := by decide +kernel
theorem dL_law_9 : decode cL_law 9 = .ok (.invokespecial 15, 3) := by decide +kernel
theorem dL_law_12 : decode cL_law 12 = .ok (.astore_n 1, 1) := by decide +kernel
theorem dL_law_13 : decode cL_law 13 = .ok (.new 18, 3) := by decide +kernel
theorem dL_law_16 : decode cL_law 16 = .ok (.dup, 1) := by decide +kernel
theorem dL_law_17 : decode cL_law 17 = .ok (.aload_n 0, 1) := by decide +kernel
theorem dL_law_18 : decode cL_law 18 = .ok (.iconst 0, 1) := by decide +kernel
theorem dL_law_19 : decode cL_law 19 = .ok (.invokestatic 9, 3) := by decide +kernel
theorem dL_law_22 : decode cL_law 22 = .ok (.invokespecial 20, 3) := by decide +kernel
theorem dL_law_25 : decode cL_law 25 = .ok (.astore_n 2, 1) := by decide +kernel
theorem dL_law_26 : decode cL_law 26 = .ok (.iconst 1, 1) := by decide +kernel
theorem dL_law_27 : decode cL_law 27 = .ok (.istore_n 3, 1) := by decide +kernel
theorem dL_law_28 : decode cL_law 28 = .ok (.iload_n 3, 1) := by decide +kernel
theorem dL_law_29 : decode cL_law 29 = .ok (.aload_n 0, 1) := by decide +kernel
theorem dL_law_30 : decode cL_law 30 = .ok (.arraylength, 1) := by decide +kernel
theorem dL_law_31 : decode cL_law 31 = .ok (.iconst 5, 1) := by decide +kernel
theorem dL_law_32 : decode cL_law 32 = .ok (.isub, 1) := by decide +kernel
theorem dL_law_33 : decode cL_law 33 = .ok (.if_icmp .gt 550, 3) := by decide +kernel
theorem dL_law_36 : decode cL_law 36 = .ok (.aload_n 0, 1) := by decide +kernel
theorem dL_law_37 : decode cL_law 37 = .ok (.iload_n 3, 1) := by decide +kernel
theorem dL_law_38 : decode cL_law 38 = .ok (.iaload, 1) := by decide +kernel
theorem dL_law_39 : decode cL_law 39 = .ok (.bipush 15, 2) := by decide +kernel
theorem dL_law_41 : decode cL_law 41 = .ok (.iand, 1) := by decide +kernel
theorem dL_law_42 : decode cL_law 42 = .ok (.tableswitch 535 0 14 #[74, 107, 130, 153, 166, 179, 192, 225, 284, 307, 340, 363, 406, 449, 482], 74) := by decide +kernel
theorem dL_law_116 : decode cL_law 116 = .ok (.aload_n 1, 1) := by decide +kernel
theorem dL_law_117 : decode cL_law 117 = .ok (.aload_n 0, 1) := by decide +kernel
theorem dL_law_118 : decode cL_law 118 = .ok (.iload_n 3, 1) := by decide +kernel
theorem dL_law_119 : decode cL_law 119 = .ok (.iconst 1, 1) := by decide +kernel
theorem dL_law_120 : decode cL_law 120 = .ok (.iadd, 1) := by decide +kernel
theorem dL_law_121 : decode cL_law 121 = .ok (.iaload, 1) := by decide +kernel
theorem dL_law_122 : decode cL_law 122 = .ok (.aload_n 0, 1) := by decide +kernel
theorem dL_law_123 : decode cL_law 123 = .ok (.iload_n 3, 1) := by decide +kernel
theorem dL_law_124 : decode cL_law 124 = .ok (.iconst 2, 1) := by decide +kernel
theorem dL_law_125 : decode cL_law 125 = .ok (.iadd, 1) := by decide +kernel
theorem dL_law_126 : decode cL_law 126 = .ok (.iaload, 1) := by decide +kernel
theorem dL_law_127 : decode cL_law 127 = .ok (.invokevirtual 21, 3) := by decide +kernel
theorem dL_law_130 : decode cL_law 130 = .ok (.aload_n 2, 1) := by decide +kernel
theorem dL_law_131 : decode cL_law 131 = .ok (.aload_n 0, 1) := by decide +kernel
theorem dL_law_132 : decode cL_law 132 = .ok (.iload_n 3, 1) := by decide +kernel
theorem dL_law_133 : decode cL_law 133 = .ok (.iconst 1, 1) := by decide +kernel
theorem dL_law_134 : decode cL_law 134 = .ok (.iadd, 1) := by decide +kernel
theorem dL_law_135 : decode cL_law 135 = .ok (.iaload, 1) := by decide +kernel
theorem dL_law_136 : decode cL_law 136 = .ok (.aload_n 0, 1) := by decide +kernel
theorem dL_law_137 : decode cL_law 137 = .ok (.iload_n 3, 1) := by decide +kernel
theorem dL_law_138 : decode cL_law 138 = .ok (.iconst 2, 1) := by decide +kernel
theorem dL_law_139 : decode cL_law 139 = .ok (.iadd, 1) := by decide +kernel
theorem dL_law_140 : decode cL_law 140 = .ok (.iaload, 1) := by decide +kernel
theorem dL_law_141 : decode cL_law 141 = .ok (.invokevirtual 25, 3) := by decide +kernel
theorem dL_law_144 : decode cL_law 144 = .ok (.if_icmp .eq 433, 3) := by decide +kernel
theorem dL_law_147 : decode cL_law 147 = .ok (.iconst 0, 1) := by decide +kernel
theorem dL_law_148 : decode cL_law 148 = .ok (.ireturn, 1) := by decide +kernel
theorem dL_law_149 : decode cL_law 149 = .ok (.aload_n 1, 1) := by decide +kernel
theorem dL_law_150 : decode cL_law 150 = .ok (.aload_n 0, 1) := by decide +kernel
theorem dL_law_151 : decode cL_law 151 = .ok (.iload_n 3, 1) := by decide +kernel
theorem dL_law_152 : decode cL_law 152 = .ok (.iconst 1, 1) := by decide +kernel
theorem dL_law_153 : decode cL_law 153 = .ok (.iadd, 1) := by decide +kernel
theorem dL_law_154 : decode cL_law 154 = .ok (.iaload, 1) := by decide +kernel
theorem dL_law_155 : decode cL_law 155 = .ok (.invokevirtual 26, 3) := by decide +kernel
theorem dL_law_158 : decode cL_law 158 = .ok (.aload_n 2, 1) := by decide +kernel
theorem dL_law_159 : decode cL_law 159 = .ok (.aload_n 0, 1) := by decide +kernel
theorem dL_law_160 : decode cL_law 160 = .ok (.iload_n 3, 1) := by decide +kernel
theorem dL_law_161 : decode cL_law 161 = .ok (.iconst 1, 1) := by decide +kernel
theorem dL_law_162 : decode cL_law 162 = .ok (.iadd, 1) := by decide +kernel
theorem dL_law_163 : decode cL_law 163 = .ok (.iaload, 1) := by decide +kernel
theorem dL_law_164 : decode cL_law 164 = .ok (.invokevirtual 30, 3) := by decide +kernel
theorem dL_law_167 : decode cL_law 167 = .ok (.if_icmp .eq 410, 3) := by decide +kernel
theorem dL_law_170 : decode cL_law 170 = .ok (.iconst 0, 1) := by decide +kernel
theorem dL_law_171 : decode cL_law 171 = .ok (.ireturn, 1) := by decide +kernel
theorem dL_law_172 : decode cL_law 172 = .ok (.aload_n 1, 1) := by decide +kernel
theorem dL_law_173 : decode cL_law 173 = .ok (.aload_n 0, 1) := by decide +kernel
theorem dL_law_174 : decode cL_law 174 = .ok (.iload_n 3, 1) := by decide +kernel
theorem dL_law_175 : decode cL_law 175 = .ok (.iconst 1, 1) := by decide +kernel
theorem dL_law_176 : decode cL_law 176 = .ok (.iadd, 1) := by decide +kernel
theorem dL_law_177 : decode cL_law 177 = .ok (.iaload, 1) := by decide +kernel
theorem dL_law_178 : decode cL_law 178 = .ok (.invokevirtual 31, 3) := by decide +kernel
theorem dL_law_181 : decode cL_law 181 = .ok (.aload_n 2, 1) := by decide +kernel
theorem dL_law_182 : decode cL_law 182 = .ok (.aload_n 0, 1) := by decide +kernel
theorem dL_law_183 : decode cL_law 183 = .ok (.iload_n 3, 1) := by decide +kernel
theorem dL_law_184 : decode cL_law 184 = .ok (.iconst 1, 1) := by decide +kernel
theorem dL_law_185 : decode cL_law 185 = .ok (.iadd, 1) := by decide +kernel
theorem dL_law_186 : decode cL_law 186 = .ok (.iaload, 1) := by decide +kernel
theorem dL_law_187 : decode cL_law 187 = .ok (.invokevirtual 35, 3) := by decide +kernel
theorem dL_law_190 : decode cL_law 190 = .ok (.if_icmp .eq 387, 3) := by decide +kernel
theorem dL_law_193 : decode cL_law 193 = .ok (.iconst 0, 1) := by decide +kernel
theorem dL_law_194 : decode cL_law 194 = .ok (.ireturn, 1) := by decide +kernel
theorem dL_law_195 : decode cL_law 195 = .ok (.aload_n 1, 1) := by decide +kernel
theorem dL_law_196 : decode cL_law 196 = .ok (.invokevirtual 36, 3) := by decide +kernel
theorem dL_law_199 : decode cL_law 199 = .ok (.aload_n 2, 1) := by decide +kernel
theorem dL_law_200 : decode cL_law 200 = .ok (.invokevirtual 40, 3) := by decide +kernel
theorem dL_law_203 : decode cL_law 203 = .ok (.if_icmp .eq 374, 3) := by decide +kernel
theorem dL_law_206 : decode cL_law 206 = .ok (.iconst 0, 1) := by decide +kernel
theorem dL_law_207 : decode cL_law 207 = .ok (.ireturn, 1) := by decide +kernel
theorem dL_law_208 : decode cL_law 208 = .ok (.aload_n 1, 1) := by decide +kernel
theorem dL_law_209 : decode cL_law 209 = .ok (.invokevirtual 41, 3) := by decide +kernel
theorem dL_law_212 : decode cL_law 212 = .ok (.aload_n 2, 1) := by decide +kernel
theorem dL_law_213 : decode cL_law 213 = .ok (.invokevirtual 44, 3) := by decide +kernel
theorem dL_law_216 : decode cL_law 216 = .ok (.if_icmp .eq 361, 3) := by decide +kernel
theorem dL_law_219 : decode cL_law 219 = .ok (.iconst 0, 1) := by decide +kernel
theorem dL_law_220 : decode cL_law 220 = .ok (.ireturn, 1) := by decide +kernel
theorem dL_law_221 : decode cL_law 221 = .ok (.aload_n 1, 1) := by decide +kernel
theorem dL_law_222 : decode cL_law 222 = .ok (.invokevirtual 45, 3) := by decide +kernel
theorem dL_law_225 : decode cL_law 225 = .ok (.aload_n 2, 1) := by decide +kernel
theorem dL_law_226 : decode cL_law 226 = .ok (.invokevirtual 48, 3) := by decide +kernel
theorem dL_law_229 : decode cL_law 229 = .ok (.if_icmp .eq 348, 3) := by decide +kernel
theorem dL_law_232 : decode cL_law 232 = .ok (.iconst 0, 1) := by decide +kernel
theorem dL_law_233 : decode cL_law 233 = .ok (.ireturn, 1) := by decide +kernel
theorem dL_law_234 : decode cL_law 234 = .ok (.aload_n 1, 1) := by decide +kernel
theorem dL_law_235 : decode cL_law 235 = .ok (.aload_n 0, 1) := by decide +kernel
theorem dL_law_236 : decode cL_law 236 = .ok (.iload_n 3, 1) := by decide +kernel
theorem dL_law_237 : decode cL_law 237 = .ok (.iconst 1, 1) := by decide +kernel
theorem dL_law_238 : decode cL_law 238 = .ok (.iadd, 1) := by decide +kernel
theorem dL_law_239 : decode cL_law 239 = .ok (.iaload, 1) := by decide +kernel
theorem dL_law_240 : decode cL_law 240 = .ok (.aload_n 0, 1) := by decide +kernel
theorem dL_law_241 : decode cL_law 241 = .ok (.iload_n 3, 1) := by decide +kernel
theorem dL_law_242 : decode cL_law 242 = .ok (.iconst 2, 1) := by decide +kernel
theorem dL_law_243 : decode cL_law 243 = .ok (.iadd, 1) := by decide +kernel
theorem dL_law_244 : decode cL_law 244 = .ok (.iaload, 1) := by decide +kernel
theorem dL_law_245 : decode cL_law 245 = .ok (.invokevirtual 49, 3) := by decide +kernel
theorem dL_law_248 : decode cL_law 248 = .ok (.aload_n 2, 1) := by decide +kernel
theorem dL_law_249 : decode cL_law 249 = .ok (.aload_n 0, 1) := by decide +kernel
theorem dL_law_250 : decode cL_law 250 = .ok (.iload_n 3, 1) := by decide +kernel
theorem dL_law_251 : decode cL_law 251 = .ok (.iconst 1, 1) := by decide +kernel
theorem dL_law_252 : decode cL_law 252 = .ok (.iadd, 1) := by decide +kernel
theorem dL_law_253 : decode cL_law 253 = .ok (.iaload, 1) := by decide +kernel
theorem dL_law_254 : decode cL_law 254 = .ok (.aload_n 0, 1) := by decide +kernel
theorem dL_law_255 : decode cL_law 255 = .ok (.iload_n 3, 1) := by decide +kernel
theorem dL_law_256 : decode cL_law 256 = .ok (.iconst 2, 1) := by decide +kernel
theorem dL_law_257 : decode cL_law 257 = .ok (.iadd, 1) := by decide +kernel
theorem dL_law_258 : decode cL_law 258 = .ok (.iaload, 1) := by decide +kernel
theorem dL_law_259 : decode cL_law 259 = .ok (.invokevirtual 52, 3) := by decide +kernel
theorem dL_law_262 : decode cL_law 262 = .ok (.if_icmp .eq 315, 3) := by decide +kernel
theorem dL_law_265 : decode cL_law 265 = .ok (.iconst 0, 1) := by decide +kernel
theorem dL_law_266 : decode cL_law 266 = .ok (.ireturn, 1) := by decide +kernel
theorem dL_law_267 : decode cL_law 267 = .ok (.aload_n 1, 1) := by decide +kernel
theorem dL_law_268 : decode cL_law 268 = .ok (.aload_n 0, 1) := by decide +kernel
theorem dL_law_269 : decode cL_law 269 = .ok (.iload_n 3, 1) := by decide +kernel
theorem dL_law_270 : decode cL_law 270 = .ok (.iconst 1, 1) := by decide +kernel
theorem dL_law_271 : decode cL_law 271 = .ok (.iadd, 1) := by decide +kernel
theorem dL_law_272 : decode cL_law 272 = .ok (.iaload, 1) := by decide +kernel
theorem dL_law_273 : decode cL_law 273 = .ok (.aload_n 0, 1) := by decide +kernel
theorem dL_law_274 : decode cL_law 274 = .ok (.iload_n 3, 1) := by decide +kernel
theorem dL_law_275 : decode cL_law 275 = .ok (.iconst 2, 1) := by decide +kernel
theorem dL_law_276 : decode cL_law 276 = .ok (.iadd, 1) := by decide +kernel
theorem dL_law_277 : decode cL_law 277 = .ok (.iaload, 1) := by decide +kernel
theorem dL_law_278 : decode cL_law 278 = .ok (.aload_n 0, 1) := by decide +kernel
theorem dL_law_279 : decode cL_law 279 = .ok (.iload_n 3, 1) := by decide +kernel
theorem dL_law_280 : decode cL_law 280 = .ok (.iconst 3, 1) := by decide +kernel
theorem dL_law_281 : decode cL_law 281 = .ok (.iadd, 1) := by decide +kernel
theorem dL_law_282 : decode cL_law 282 = .ok (.iaload, 1) := by decide +kernel
theorem dL_law_283 : decode cL_law 283 = .ok (.ifCond .eq 7, 3) := by decide +kernel
theorem dL_law_286 : decode cL_law 286 = .ok (.iconst 1, 1) := by decide +kernel
theorem dL_law_287 : decode cL_law 287 = .ok (.goto 4, 3) := by decide +kernel
theorem dL_law_290 : decode cL_law 290 = .ok (.iconst 0, 1) := by decide +kernel
theorem dL_law_291 : decode cL_law 291 = .ok (.invokevirtual 53, 3) := by decide +kernel
theorem dL_law_294 : decode cL_law 294 = .ok (.aload_n 2, 1) := by decide +kernel
theorem dL_law_295 : decode cL_law 295 = .ok (.aload_n 0, 1) := by decide +kernel
theorem dL_law_296 : decode cL_law 296 = .ok (.iload_n 3, 1) := by decide +kernel
theorem dL_law_297 : decode cL_law 297 = .ok (.iconst 1, 1) := by decide +kernel
theorem dL_law_298 : decode cL_law 298 = .ok (.iadd, 1) := by decide +kernel
theorem dL_law_299 : decode cL_law 299 = .ok (.iaload, 1) := by decide +kernel
theorem dL_law_300 : decode cL_law 300 = .ok (.aload_n 0, 1) := by decide +kernel
theorem dL_law_301 : decode cL_law 301 = .ok (.iload_n 3, 1) := by decide +kernel
theorem dL_law_302 : decode cL_law 302 = .ok (.iconst 2, 1) := by decide +kernel
theorem dL_law_303 : decode cL_law 303 = .ok (.iadd, 1) := by decide +kernel
theorem dL_law_304 : decode cL_law 304 = .ok (.iaload, 1) := by decide +kernel
theorem dL_law_305 : decode cL_law 305 = .ok (.aload_n 0, 1) := by decide +kernel
theorem dL_law_306 : decode cL_law 306 = .ok (.iload_n 3, 1) := by decide +kernel
theorem dL_law_307 : decode cL_law 307 = .ok (.iconst 3, 1) := by decide +kernel
theorem dL_law_308 : decode cL_law 308 = .ok (.iadd, 1) := by decide +kernel
theorem dL_law_309 : decode cL_law 309 = .ok (.iaload, 1) := by decide +kernel
theorem dL_law_310 : decode cL_law 310 = .ok (.ifCond .eq 7, 3) := by decide +kernel
theorem dL_law_313 : decode cL_law 313 = .ok (.iconst 1, 1) := by decide +kernel
theorem dL_law_314 : decode cL_law 314 = .ok (.goto 4, 3) := by decide +kernel
theorem dL_law_317 : decode cL_law 317 = .ok (.iconst 0, 1) := by decide +kernel
theorem dL_law_318 : decode cL_law 318 = .ok (.invokevirtual 57, 3) := by decide +kernel
theorem dL_law_321 : decode cL_law 321 = .ok (.if_icmp .eq 256, 3) := by decide +kernel
theorem dL_law_324 : decode cL_law 324 = .ok (.iconst 0, 1) := by decide +kernel
theorem dL_law_325 : decode cL_law 325 = .ok (.ireturn, 1) := by decide +kernel
theorem dL_law_326 : decode cL_law 326 = .ok (.aload_n 1, 1) := by decide +kernel
theorem dL_law_327 : decode cL_law 327 = .ok (.aload_n 0, 1) := by decide +kernel
theorem dL_law_328 : decode cL_law 328 = .ok (.iload_n 3, 1) := by decide +kernel
theorem dL_law_329 : decode cL_law 329 = .ok (.iconst 1, 1) := by decide +kernel
theorem dL_law_330 : decode cL_law 330 = .ok (.iadd, 1) := by decide +kernel
theorem dL_law_331 : decode cL_law 331 = .ok (.iaload, 1) := by decide +kernel
theorem dL_law_332 : decode cL_law 332 = .ok (.invokevirtual 58, 3) := by decide +kernel
theorem dL_law_335 : decode cL_law 335 = .ok (.aload_n 2, 1) := by decide +kernel
theorem dL_law_336 : decode cL_law 336 = .ok (.aload_n 0, 1) := by decide +kernel
theorem dL_law_337 : decode cL_law 337 = .ok (.iload_n 3, 1) := by decide +kernel
theorem dL_law_338 : decode cL_law 338 = .ok (.iconst 1, 1) := by decide +kernel
theorem dL_law_339 : decode cL_law 339 = .ok (.iadd, 1) := by decide +kernel
theorem dL_law_340 : decode cL_law 340 = .ok (.iaload, 1) := by decide +kernel
theorem dL_law_341 : decode cL_law 341 = .ok (.invokevirtual 61, 3) := by decide +kernel
theorem dL_law_344 : decode cL_law 344 = .ok (.if_icmp .eq 233, 3) := by decide +kernel
theorem dL_law_347 : decode cL_law 347 = .ok (.iconst 0, 1) := by decide +kernel
theorem dL_law_348 : decode cL_law 348 = .ok (.ireturn, 1) := by decide +kernel
theorem dL_law_349 : decode cL_law 349 = .ok (.aload_n 1, 1) := by decide +kernel
theorem dL_law_350 : decode cL_law 350 = .ok (.aload_n 0, 1) := by decide +kernel
theorem dL_law_351 : decode cL_law 351 = .ok (.iload_n 3, 1) := by decide +kernel
theorem dL_law_352 : decode cL_law 352 = .ok (.iconst 1, 1) := by decide +kernel
theorem dL_law_353 : decode cL_law 353 = .ok (.iadd, 1) := by decide +kernel
theorem dL_law_354 : decode cL_law 354 = .ok (.iaload, 1) := by decide +kernel
theorem dL_law_355 : decode cL_law 355 = .ok (.aload_n 0, 1) := by decide +kernel
theorem dL_law_356 : decode cL_law 356 = .ok (.iload_n 3, 1) := by decide +kernel
theorem dL_law_357 : decode cL_law 357 = .ok (.iconst 2, 1) := by decide +kernel
theorem dL_law_358 : decode cL_law 358 = .ok (.iadd, 1) := by decide +kernel
theorem dL_law_359 : decode cL_law 359 = .ok (.iaload, 1) := by decide +kernel
theorem dL_law_360 : decode cL_law 360 = .ok (.invokevirtual 62, 3) := by decide +kernel
theorem dL_law_363 : decode cL_law 363 = .ok (.aload_n 2, 1) := by decide +kernel
theorem dL_law_364 : decode cL_law 364 = .ok (.aload_n 0, 1) := by decide +kernel
theorem dL_law_365 : decode cL_law 365 = .ok (.iload_n 3, 1) := by decide +kernel
theorem dL_law_366 : decode cL_law 366 = .ok (.iconst 1, 1) := by decide +kernel
theorem dL_law_367 : decode cL_law 367 = .ok (.iadd, 1) := by decide +kernel
theorem dL_law_368 : decode cL_law 368 = .ok (.iaload, 1) := by decide +kernel
theorem dL_law_369 : decode cL_law 369 = .ok (.aload_n 0, 1) := by decide +kernel
theorem dL_law_370 : decode cL_law 370 = .ok (.iload_n 3, 1) := by decide +kernel
theorem dL_law_371 : decode cL_law 371 = .ok (.iconst 2, 1) := by decide +kernel
theorem dL_law_372 : decode cL_law 372 = .ok (.iadd, 1) := by decide +kernel
theorem dL_law_373 : decode cL_law 373 = .ok (.iaload, 1) := by decide +kernel
theorem dL_law_374 : decode cL_law 374 = .ok (.invokevirtual 66, 3) := by decide +kernel
theorem dL_law_377 : decode cL_law 377 = .ok (.if_icmp .eq 200, 3) := by decide +kernel
theorem dL_law_380 : decode cL_law 380 = .ok (.iconst 0, 1) := by decide +kernel
theorem dL_law_381 : decode cL_law 381 = .ok (.ireturn, 1) := by decide +kernel
theorem dL_law_382 : decode cL_law 382 = .ok (.aload_n 1, 1) := by decide +kernel
theorem dL_law_383 : decode cL_law 383 = .ok (.aload_n 0, 1) := by decide +kernel
theorem dL_law_384 : decode cL_law 384 = .ok (.iload_n 3, 1) := by decide +kernel
theorem dL_law_385 : decode cL_law 385 = .ok (.iconst 1, 1) := by decide +kernel
theorem dL_law_386 : decode cL_law 386 = .ok (.iadd, 1) := by decide +kernel
theorem dL_law_387 : decode cL_law 387 = .ok (.iaload, 1) := by decide +kernel
theorem dL_law_388 : decode cL_law 388 = .ok (.invokevirtual 67, 3) := by decide +kernel
theorem dL_law_391 : decode cL_law 391 = .ok (.aload_n 2, 1) := by decide +kernel
theorem dL_law_392 : decode cL_law 392 = .ok (.aload_n 0, 1) := by decide +kernel
theorem dL_law_393 : decode cL_law 393 = .ok (.iload_n 3, 1) := by decide +kernel
theorem dL_law_394 : decode cL_law 394 = .ok (.iconst 1, 1) := by decide +kernel
theorem dL_law_395 : decode cL_law 395 = .ok (.iadd, 1) := by decide +kernel
theorem dL_law_396 : decode cL_law 396 = .ok (.iaload, 1) := by decide +kernel
theorem dL_law_397 : decode cL_law 397 = .ok (.invokevirtual 70, 3) := by decide +kernel
theorem dL_law_400 : decode cL_law 400 = .ok (.if_icmp .eq 177, 3) := by decide +kernel
theorem dL_law_403 : decode cL_law 403 = .ok (.iconst 0, 1) := by decide +kernel
theorem dL_law_404 : decode cL_law 404 = .ok (.ireturn, 1) := by decide +kernel
theorem dL_law_405 : decode cL_law 405 = .ok (.aload_n 1, 1) := by decide +kernel
theorem dL_law_406 : decode cL_law 406 = .ok (.aload_n 0, 1) := by decide +kernel
theorem dL_law_407 : decode cL_law 407 = .ok (.iload_n 3, 1) := by decide +kernel
theorem dL_law_408 : decode cL_law 408 = .ok (.iconst 1, 1) := by decide +kernel
theorem dL_law_409 : decode cL_law 409 = .ok (.iadd, 1) := by decide +kernel
theorem dL_law_410 : decode cL_law 410 = .ok (.iaload, 1) := by decide +kernel
theorem dL_law_411 : decode cL_law 411 = .ok (.aload_n 0, 1) := by decide +kernel
theorem dL_law_412 : decode cL_law 412 = .ok (.iload_n 3, 1) := by decide +kernel
theorem dL_law_413 : decode cL_law 413 = .ok (.iconst 2, 1) := by decide +kernel
theorem dL_law_414 : decode cL_law 414 = .ok (.iadd, 1) := by decide +kernel
theorem dL_law_415 : decode cL_law 415 = .ok (.iaload, 1) := by decide +kernel
theorem dL_law_416 : decode cL_law 416 = .ok (.aload_n 0, 1) := by decide +kernel
theorem dL_law_417 : decode cL_law 417 = .ok (.iload_n 3, 1) := by decide +kernel
theorem dL_law_418 : decode cL_law 418 = .ok (.iconst 3, 1) := by decide +kernel
theorem dL_law_419 : decode cL_law 419 = .ok (.iadd, 1) := by decide +kernel
theorem dL_law_420 : decode cL_law 420 = .ok (.iaload, 1) := by decide +kernel
theorem dL_law_421 : decode cL_law 421 = .ok (.invokevirtual 71, 3) := by decide +kernel
theorem dL_law_424 : decode cL_law 424 = .ok (.aload_n 2, 1) := by decide +kernel
theorem dL_law_425 : decode cL_law 425 = .ok (.aload_n 0, 1) := by decide +kernel
theorem dL_law_426 : decode cL_law 426 = .ok (.iload_n 3, 1) := by decide +kernel
theorem dL_law_427 : decode cL_law 427 = .ok (.iconst 1, 1) := by decide +kernel
theorem dL_law_428 : decode cL_law 428 = .ok (.iadd, 1) := by decide +kernel
theorem dL_law_429 : decode cL_law 429 = .ok (.iaload, 1) := by decide +kernel
theorem dL_law_430 : decode cL_law 430 = .ok (.aload_n 0, 1) := by decide +kernel
theorem dL_law_431 : decode cL_law 431 = .ok (.iload_n 3, 1) := by decide +kernel
theorem dL_law_432 : decode cL_law 432 = .ok (.iconst 2, 1) := by decide +kernel
theorem dL_law_433 : decode cL_law 433 = .ok (.iadd, 1) := by decide +kernel
theorem dL_law_434 : decode cL_law 434 = .ok (.iaload, 1) := by decide +kernel
theorem dL_law_435 : decode cL_law 435 = .ok (.aload_n 0, 1) := by decide +kernel
theorem dL_law_436 : decode cL_law 436 = .ok (.iload_n 3, 1) := by decide +kernel
theorem dL_law_437 : decode cL_law 437 = .ok (.iconst 3, 1) := by decide +kernel
theorem dL_law_438 : decode cL_law 438 = .ok (.iadd, 1) := by decide +kernel
theorem dL_law_439 : decode cL_law 439 = .ok (.iaload, 1) := by decide +kernel
theorem dL_law_440 : decode cL_law 440 = .ok (.invokevirtual 75, 3) := by decide +kernel
theorem dL_law_443 : decode cL_law 443 = .ok (.if_icmp .eq 134, 3) := by decide +kernel
theorem dL_law_446 : decode cL_law 446 = .ok (.iconst 0, 1) := by decide +kernel
theorem dL_law_447 : decode cL_law 447 = .ok (.ireturn, 1) := by decide +kernel
theorem dL_law_448 : decode cL_law 448 = .ok (.aload_n 1, 1) := by decide +kernel
theorem dL_law_449 : decode cL_law 449 = .ok (.aload_n 0, 1) := by decide +kernel
theorem dL_law_450 : decode cL_law 450 = .ok (.iload_n 3, 1) := by decide +kernel
theorem dL_law_451 : decode cL_law 451 = .ok (.iconst 1, 1) := by decide +kernel
theorem dL_law_452 : decode cL_law 452 = .ok (.iadd, 1) := by decide +kernel
theorem dL_law_453 : decode cL_law 453 = .ok (.iaload, 1) := by decide +kernel
theorem dL_law_454 : decode cL_law 454 = .ok (.aload_n 0, 1) := by decide +kernel
theorem dL_law_455 : decode cL_law 455 = .ok (.iload_n 3, 1) := by decide +kernel
theorem dL_law_456 : decode cL_law 456 = .ok (.iconst 2, 1) := by decide +kernel
theorem dL_law_457 : decode cL_law 457 = .ok (.iadd, 1) := by decide +kernel
theorem dL_law_458 : decode cL_law 458 = .ok (.iaload, 1) := by decide +kernel
theorem dL_law_459 : decode cL_law 459 = .ok (.aload_n 0, 1) := by decide +kernel
theorem dL_law_460 : decode cL_law 460 = .ok (.iload_n 3, 1) := by decide +kernel
theorem dL_law_461 : decode cL_law 461 = .ok (.iconst 3, 1) := by decide +kernel
theorem dL_law_462 : decode cL_law 462 = .ok (.iadd, 1) := by decide +kernel
theorem dL_law_463 : decode cL_law 463 = .ok (.iaload, 1) := by decide +kernel
theorem dL_law_464 : decode cL_law 464 = .ok (.invokevirtual 76, 3) := by decide +kernel
theorem dL_law_467 : decode cL_law 467 = .ok (.aload_n 2, 1) := by decide +kernel
theorem dL_law_468 : decode cL_law 468 = .ok (.aload_n 0, 1) := by decide +kernel
theorem dL_law_469 : decode cL_law 469 = .ok (.iload_n 3, 1) := by decide +kernel
theorem dL_law_470 : decode cL_law 470 = .ok (.iconst 1, 1) := by decide +kernel
theorem dL_law_471 : decode cL_law 471 = .ok (.iadd, 1) := by decide +kernel
theorem dL_law_472 : decode cL_law 472 = .ok (.iaload, 1) := by decide +kernel
theorem dL_law_473 : decode cL_law 473 = .ok (.aload_n 0, 1) := by decide +kernel
theorem dL_law_474 : decode cL_law 474 = .ok (.iload_n 3, 1) := by decide +kernel
theorem dL_law_475 : decode cL_law 475 = .ok (.iconst 2, 1) := by decide +kernel
theorem dL_law_476 : decode cL_law 476 = .ok (.iadd, 1) := by decide +kernel
theorem dL_law_477 : decode cL_law 477 = .ok (.iaload, 1) := by decide +kernel
theorem dL_law_478 : decode cL_law 478 = .ok (.aload_n 0, 1) := by decide +kernel
theorem dL_law_479 : decode cL_law 479 = .ok (.iload_n 3, 1) := by decide +kernel
theorem dL_law_480 : decode cL_law 480 = .ok (.iconst 3, 1) := by decide +kernel
theorem dL_law_481 : decode cL_law 481 = .ok (.iadd, 1) := by decide +kernel
theorem dL_law_482 : decode cL_law 482 = .ok (.iaload, 1) := by decide +kernel
theorem dL_law_483 : decode cL_law 483 = .ok (.invokevirtual 79, 3) := by decide +kernel
theorem dL_law_486 : decode cL_law 486 = .ok (.if_icmp .eq 91, 3) := by decide +kernel
theorem dL_law_489 : decode cL_law 489 = .ok (.iconst 0, 1) := by decide +kernel
theorem dL_law_490 : decode cL_law 490 = .ok (.ireturn, 1) := by decide +kernel
theorem dL_law_491 : decode cL_law 491 = .ok (.aload_n 1, 1) := by decide +kernel
theorem dL_law_492 : decode cL_law 492 = .ok (.aload_n 0, 1) := by decide +kernel
theorem dL_law_493 : decode cL_law 493 = .ok (.iload_n 3, 1) := by decide +kernel
theorem dL_law_494 : decode cL_law 494 = .ok (.iconst 1, 1) := by decide +kernel
theorem dL_law_495 : decode cL_law 495 = .ok (.iadd, 1) := by decide +kernel
theorem dL_law_496 : decode cL_law 496 = .ok (.iaload, 1) := by decide +kernel
theorem dL_law_497 : decode cL_law 497 = .ok (.aload_n 0, 1) := by decide +kernel
theorem dL_law_498 : decode cL_law 498 = .ok (.iload_n 3, 1) := by decide +kernel
theorem dL_law_499 : decode cL_law 499 = .ok (.iconst 2, 1) := by decide +kernel
theorem dL_law_500 : decode cL_law 500 = .ok (.iadd, 1) := by decide +kernel
theorem dL_law_501 : decode cL_law 501 = .ok (.iaload, 1) := by decide +kernel
theorem dL_law_502 : decode cL_law 502 = .ok (.invokevirtual 80, 3) := by decide +kernel
theorem dL_law_505 : decode cL_law 505 = .ok (.aload_n 2, 1) := by decide +kernel
theorem dL_law_506 : decode cL_law 506 = .ok (.aload_n 0, 1) := by decide +kernel
theorem dL_law_507 : decode cL_law 507 = .ok (.iload_n 3, 1) := by decide +kernel
theorem dL_law_508 : decode cL_law 508 = .ok (.iconst 1, 1) := by decide +kernel
theorem dL_law_509 : decode cL_law 509 = .ok (.iadd, 1) := by decide +kernel
theorem dL_law_510 : decode cL_law 510 = .ok (.iaload, 1) := by decide +kernel
theorem dL_law_511 : decode cL_law 511 = .ok (.aload_n 0, 1) := by decide +kernel
theorem dL_law_512 : decode cL_law 512 = .ok (.iload_n 3, 1) := by decide +kernel
theorem dL_law_513 : decode cL_law 513 = .ok (.iconst 2, 1) := by decide +kernel
theorem dL_law_514 : decode cL_law 514 = .ok (.iadd, 1) := by decide +kernel
theorem dL_law_515 : decode cL_law 515 = .ok (.iaload, 1) := by decide +kernel
theorem dL_law_516 : decode cL_law 516 = .ok (.invokevirtual 83, 3) := by decide +kernel
theorem dL_law_519 : decode cL_law 519 = .ok (.if_icmp .eq 58, 3) := by decide +kernel
theorem dL_law_522 : decode cL_law 522 = .ok (.iconst 0, 1) := by decide +kernel
theorem dL_law_523 : decode cL_law 523 = .ok (.ireturn, 1) := by decide +kernel
theorem dL_law_524 : decode cL_law 524 = .ok (.aload_n 1, 1) := by decide +kernel
theorem dL_law_525 : decode cL_law 525 = .ok (.aload_n 0, 1) := by decide +kernel
theorem dL_law_526 : decode cL_law 526 = .ok (.iload_n 3, 1) := by decide +kernel
theorem dL_law_527 : decode cL_law 527 = .ok (.iconst 1, 1) := by decide +kernel
theorem dL_law_528 : decode cL_law 528 = .ok (.iadd, 1) := by decide +kernel
theorem dL_law_529 : decode cL_law 529 = .ok (.iaload, 1) := by decide +kernel
theorem dL_law_530 : decode cL_law 530 = .ok (.aload_n 0, 1) := by decide +kernel
theorem dL_law_531 : decode cL_law 531 = .ok (.iload_n 3, 1) := by decide +kernel
theorem dL_law_532 : decode cL_law 532 = .ok (.iconst 2, 1) := by decide +kernel
theorem dL_law_533 : decode cL_law 533 = .ok (.iadd, 1) := by decide +kernel
theorem dL_law_534 : decode cL_law 534 = .ok (.iaload, 1) := by decide +kernel
theorem dL_law_535 : decode cL_law 535 = .ok (.aload_n 0, 1) := by decide +kernel
theorem dL_law_536 : decode cL_law 536 = .ok (.iload_n 3, 1) := by decide +kernel
theorem dL_law_537 : decode cL_law 537 = .ok (.iconst 3, 1) := by decide +kernel
theorem dL_law_538 : decode cL_law 538 = .ok (.iadd, 1) := by decide +kernel
theorem dL_law_539 : decode cL_law 539 = .ok (.iaload, 1) := by decide +kernel
theorem dL_law_540 : decode cL_law 540 = .ok (.aload_n 0, 1) := by decide +kernel
theorem dL_law_541 : decode cL_law 541 = .ok (.iload_n 3, 1) := by decide +kernel
theorem dL_law_542 : decode cL_law 542 = .ok (.iconst 4, 1) := by decide +kernel
theorem dL_law_543 : decode cL_law 543 = .ok (.iadd, 1) := by decide +kernel
theorem dL_law_544 : decode cL_law 544 = .ok (.iaload, 1) := by decide +kernel
theorem dL_law_545 : decode cL_law 545 = .ok (.invokevirtual 84, 3) := by decide +kernel
theorem dL_law_548 : decode cL_law 548 = .ok (.aload_n 2, 1) := by decide +kernel
theorem dL_law_549 : decode cL_law 549 = .ok (.aload_n 0, 1) := by decide +kernel
theorem dL_law_550 : decode cL_law 550 = .ok (.iload_n 3, 1) := by decide +kernel
theorem dL_law_551 : decode cL_law 551 = .ok (.iconst 1, 1) := by decide +kernel
theorem dL_law_552 : decode cL_law 552 = .ok (.iadd, 1) := by decide +kernel
theorem dL_law_553 : decode cL_law 553 = .ok (.iaload, 1) := by decide +kernel
theorem dL_law_554 : decode cL_law 554 = .ok (.aload_n 0, 1) := by decide +kernel
theorem dL_law_555 : decode cL_law 555 = .ok (.iload_n 3, 1) := by decide +kernel
theorem dL_law_556 : decode cL_law 556 = .ok (.iconst 2, 1) := by decide +kernel
theorem dL_law_557 : decode cL_law 557 = .ok (.iadd, 1) := by decide +kernel
theorem dL_law_558 : decode cL_law 558 = .ok (.iaload, 1) := by decide +kernel
theorem dL_law_559 : decode cL_law 559 = .ok (.aload_n 0, 1) := by decide +kernel
theorem dL_law_560 : decode cL_law 560 = .ok (.iload_n 3, 1) := by decide +kernel
theorem dL_law_561 : decode cL_law 561 = .ok (.iconst 3, 1) := by decide +kernel
theorem dL_law_562 : decode cL_law 562 = .ok (.iadd, 1) := by decide +kernel
theorem dL_law_563 : decode cL_law 563 = .ok (.iaload, 1) := by decide +kernel
theorem dL_law_564 : decode cL_law 564 = .ok (.aload_n 0, 1) := by decide +kernel
theorem dL_law_565 : decode cL_law 565 = .ok (.iload_n 3, 1) := by decide +kernel
theorem dL_law_566 : decode cL_law 566 = .ok (.iconst 4, 1) := by decide +kernel
theorem dL_law_567 : decode cL_law 567 = .ok (.iadd, 1) := by decide +kernel
theorem dL_law_568 : decode cL_law 568 = .ok (.iaload, 1) := by decide +kernel
theorem dL_law_569 : decode cL_law 569 = .ok (.invokevirtual 88, 3) := by decide +kernel
theorem dL_law_572 : decode cL_law 572 = .ok (.if_icmp .eq 5, 3) := by decide +kernel
theorem dL_law_575 : decode cL_law 575 = .ok (.iconst 0, 1) := by decide +kernel
theorem dL_law_576 : decode cL_law 576 = .ok (.ireturn, 1) := by decide +kernel
theorem dL_law_577 : decode cL_law 577 = .ok (.iinc 3 5, 3) := by decide +kernel
theorem dL_law_580 : decode cL_law 580 = .ok (.goto (-552), 3) := by decide +kernel
theorem dL_law_583 : decode cL_law 583 = .ok (.iconst 1, 1) := by decide +kernel
theorem dL_law_584 : decode cL_law 584 = .ok (.ireturn, 1) := by decide +kernel
theorem dX0_init_0 : decode cX0_init 0 = .ok (.aload_n 0, 1) := by decide +kernel
theorem dX0_init_1 : decode cX0_init 1 = .ok (.invokespecial 3, 3) := by decide +kernel
theorem dX0_init_4 : decode cX0_init 4 = .ok (.aload_n 0, 1) := by decide +kernel
theorem dX0_init_5 : decode cX0_init 5 = .ok (.iload_n 1, 1) := by decide +kernel
theorem dX0_init_6 : decode cX0_init 6 = .ok (.putfield 9, 3) := by decide +kernel
theorem dX0_init_9 : decode cX0_init 9 = .ok (.aload_n 0, 1) := by decide +kernel
theorem dX0_init_10 : decode cX0_init 10 = .ok (.aload_n 2, 1) := by decide +kernel
theorem dX0_init_11 : decode cX0_init 11 = .ok (.putfield 15, 3) := by decide +kernel
theorem dX0_init_14 : decode cX0_init 14 = .ok (.aload_n 0, 1) := by decide +kernel
theorem dX0_init_15 : decode cX0_init 15 = .ok (.bipush 120, 2) := by decide +kernel
theorem dX0_init_17 : decode cX0_init 17 = .ok (.newarray .int, 2) := by decide +kernel
theorem dX0_init_19 : decode cX0_init 19 = .ok (.putfield 19, 3) := by decide +kernel
theorem dX0_init_22 : decode cX0_init 22 = .ok (.aload_n 0, 1) := by decide +kernel
theorem dX0_init_23 : decode cX0_init 23 = .ok (.bipush 120, 2) := by decide +kernel
theorem dX0_init_25 : decode cX0_init 25 = .ok (.newarray .int, 2) := by decide +kernel
theorem dX0_init_27 : decode cX0_init 27 = .ok (.putfield 23, 3) := by decide +kernel
theorem dX0_init_30 : decode cX0_init 30 = .ok (.aload_n 0, 1) := by decide +kernel
theorem dX0_init_31 : decode cX0_init 31 = .ok (.bipush 120, 2) := by decide +kernel
theorem dX0_init_33 : decode cX0_init 33 = .ok (.newarray .boolean, 2) := by decide +kernel
theorem dX0_init_35 : decode cX0_init 35 = .ok (.putfield 26, 3) := by decide +kernel
theorem dX0_init_38 : decode cX0_init 38 = .ok (.aload_n 0, 1) := by decide +kernel
theorem dX0_init_39 : decode cX0_init 39 = .ok (.bipush 120, 2) := by decide +kernel
theorem dX0_init_41 : decode cX0_init 41 = .ok (.newarray .int, 2) := by decide +kernel
theorem dX0_init_43 : decode cX0_init 43 = .ok (.putfield 30, 3) := by decide +kernel
theorem dX0_init_46 : decode cX0_init 46 = .ok (.aload_n 0, 1) := by decide +kernel
theorem dX0_init_47 : decode cX0_init 47 = .ok (.bipush 120, 2) := by decide +kernel
theorem dX0_init_49 : decode cX0_init 49 = .ok (.newarray .int, 2) := by decide +kernel
theorem dX0_init_51 : decode cX0_init 51 = .ok (.putfield 33, 3) := by decide +kernel
theorem dX0_init_54 : decode cX0_init 54 = .ok (.return_, 1) := by decide +kernel
theorem dX0_accepts_0 : decode cX0_accepts 0 = .ok (.aload_n 0, 1) := by decide +kernel
theorem dX0_accepts_1 : decode cX0_accepts 1 = .ok (.iconst 0, 1) := by decide +kernel
theorem dX0_accepts_2 : decode cX0_accepts 2 = .ok (.putfield 36, 3) := by decide +kernel
theorem dX0_accepts_5 : decode cX0_accepts 5 = .ok (.aload_n 0, 1) := by decide +kernel
theorem dX0_accepts_6 : decode cX0_accepts 6 = .ok (.iconst 0, 1) := by decide +kernel
theorem dX0_accepts_7 : decode cX0_accepts 7 = .ok (.putfield 39, 3) := by decide +kernel
theorem dX0_accepts_10 : decode cX0_accepts 10 = .ok (.aload_n 0, 1) := by decide +kernel
theorem dX0_accepts_11 : decode cX0_accepts 11 = .ok (.iconst 0, 1) := by decide +kernel
theorem dX0_accepts_12 : decode cX0_accepts 12 = .ok (.putfield 42, 3) := by decide +kernel
theorem dX0_accepts_15 : decode cX0_accepts 15 = .ok (.aload_n 0, 1) := by decide +kernel
theorem dX0_accepts_16 : decode cX0_accepts 16 = .ok (.iconst 1, 1) := by decide +kernel
theorem dX0_accepts_17 : decode cX0_accepts 17 = .ok (.invokevirtual 45, 3) := by decide +kernel
theorem dX0_accepts_20 : decode cX0_accepts 20 = .ok (.ifCond .eq 52, 3) := by decide +kernel
theorem dX0_accepts_23 : decode cX0_accepts 23 = .ok (.aload_n 0, 1) := by decide +kernel
theorem dX0_accepts_24 : decode cX0_accepts 24 = .ok (.getfield 36, 3) := by decide +kernel
theorem dX0_accepts_27 : decode cX0_accepts 27 = .ok (.aload_n 0, 1) := by decide +kernel
theorem dX0_accepts_28 : decode cX0_accepts 28 = .ok (.getfield 15, 3) := by decide +kernel
theorem dX0_accepts_31 : decode cX0_accepts 31 = .ok (.getfield 49, 3) := by decide +kernel
theorem dX0_accepts_34 : decode cX0_accepts 34 = .ok (.if_icmp .ne 38, 3) := by decide +kernel
theorem dX0_accepts_37 : decode cX0_accepts 37 = .ok (.aload_n 0, 1) := by decide +kernel
theorem dX0_accepts_38 : decode cX0_accepts 38 = .ok (.getfield 54, 3) := by decide +kernel
theorem dX0_accepts_41 : decode cX0_accepts 41 = .ok (.iload_n 1, 1) := by decide +kernel
theorem dX0_accepts_42 : decode cX0_accepts 42 = .ok (.if_icmp .ne 30, 3) := by decide +kernel
theorem dX0_accepts_45 : decode cX0_accepts 45 = .ok (.aload_n 0, 1) := by decide +kernel
theorem dX0_accepts_46 : decode cX0_accepts 46 = .ok (.invokevirtual 57, 3) := by decide +kernel
theorem dX0_accepts_49 : decode cX0_accepts 49 = .ok (.ifCond .eq 23, 3) := by decide +kernel
theorem dX0_accepts_52 : decode cX0_accepts 52 = .ok (.aload_n 0, 1) := by decide +kernel
theorem dX0_accepts_53 : decode cX0_accepts 53 = .ok (.aload_n 2, 1) := by decide +kernel
theorem dX0_accepts_54 : decode cX0_accepts 54 = .ok (.invokevirtual 61, 3) := by decide +kernel
theorem dX0_accepts_57 : decode cX0_accepts 57 = .ok (.ifCond .eq 15, 3) := by decide +kernel
theorem dX0_accepts_60 : decode cX0_accepts 60 = .ok (.aload_n 0, 1) := by decide +kernel
theorem dX0_accepts_61 : decode cX0_accepts 61 = .ok (.aload_n 2, 1) := by decide +kernel
theorem dX0_accepts_62 : decode cX0_accepts 62 = .ok (.invokevirtual 65, 3) := by decide +kernel
theorem dX0_accepts_65 : decode cX0_accepts 65 = .ok (.ifCond .eq 7, 3) := by decide +kernel
theorem dX0_accepts_68 : decode cX0_accepts 68 = .ok (.iconst 1, 1) := by decide +kernel
theorem dX0_accepts_69 : decode cX0_accepts 69 = .ok (.goto 4, 3) := by decide +kernel
theorem dX0_accepts_72 : decode cX0_accepts 72 = .ok (.iconst 0, 1) := by decide +kernel
theorem dX0_accepts_73 : decode cX0_accepts 73 = .ok (.ireturn, 1) := by decide +kernel
theorem dX0_copyRows_0 : decode cX0_copyRows 0 = .ok (.aload_n 2, 1) := by decide +kernel
theorem dX0_copyRows_1 : decode cX0_copyRows 1 = .ok (.iconst 0, 1) := by decide +kernel
theorem dX0_copyRows_2 : decode cX0_copyRows 2 = .ok (.putfield 68, 3) := by decide +kernel
theorem dX0_copyRows_5 : decode cX0_copyRows 5 = .ok (.iconst 0, 1) := by decide +kernel
theorem dX0_copyRows_6 : decode cX0_copyRows 6 = .ok (.istore_n 3, 1) := by decide +kernel
theorem dX0_copyRows_7 : decode cX0_copyRows 7 = .ok (.iload_n 3, 1) := by decide +kernel
theorem dX0_copyRows_8 : decode cX0_copyRows 8 = .ok (.aload_n 0, 1) := by decide +kernel
theorem dX0_copyRows_9 : decode cX0_copyRows 9 = .ok (.getfield 39, 3) := by decide +kernel
theorem dX0_copyRows_12 : decode cX0_copyRows 12 = .ok (.if_icmp .ge 34, 3) := by decide +kernel
theorem dX0_copyRows_15 : decode cX0_copyRows 15 = .ok (.aload_n 0, 1) := by decide +kernel
theorem dX0_copyRows_16 : decode cX0_copyRows 16 = .ok (.iload_n 3, 1) := by decide +kernel
theorem dX0_copyRows_17 : decode cX0_copyRows 17 = .ok (.aload_n 1, 1) := by decide +kernel
theorem dX0_copyRows_18 : decode cX0_copyRows 18 = .ok (.invokevirtual 71, 3) := by decide +kernel
theorem dX0_copyRows_21 : decode cX0_copyRows 21 = .ok (.ifCond .eq 19, 3) := by decide +kernel
theorem dX0_copyRows_24 : decode cX0_copyRows 24 = .ok (.aload_n 2, 1) := by decide +kernel
theorem dX0_copyRows_25 : decode cX0_copyRows 25 = .ok (.aload_n 0, 1) := by decide +kernel
theorem dX0_copyRows_26 : decode cX0_copyRows 26 = .ok (.getfield 19, 3) := by decide +kernel
theorem dX0_copyRows_29 : decode cX0_copyRows 29 = .ok (.iload_n 3, 1) := by decide +kernel
theorem dX0_copyRows_30 : decode cX0_copyRows 30 = .ok (.iaload, 1) := by decide +kernel
theorem dX0_copyRows_31 : decode cX0_copyRows 31 = .ok (.aload_n 0, 1) := by decide +kernel
theorem dX0_copyRows_32 : decode cX0_copyRows 32 = .ok (.getfield 23, 3) := by decide +kernel
theorem dX0_copyRows_35 : decode cX0_copyRows 35 = .ok (.iload_n 3, 1) := by decide +kernel
theorem dX0_copyRows_36 : decode cX0_copyRows 36 = .ok (.iaload, 1) := by decide +kernel
theorem dX0_copyRows_37 : decode cX0_copyRows 37 = .ok (.invokevirtual 75, 3) := by decide +kernel
theorem dX0_copyRows_40 : decode cX0_copyRows 40 = .ok (.iinc 3 1, 3) := by decide +kernel
theorem dX0_copyRows_43 : decode cX0_copyRows 43 = .ok (.goto (-36), 3) := by decide +kernel
theorem dX0_copyRows_46 : decode cX0_copyRows 46 = .ok (.return_, 1) := by decide +kernel
theorem dX0_total_0 : decode cX0_total 0 = .ok (.iconst 0, 1) := by decide +kernel
theorem dX0_total_1 : decode cX0_total 1 = .ok (.istore_n 2, 1) := by decide +kernel
theorem dX0_total_2 : decode cX0_total 2 = .ok (.iconst 0, 1) := by decide +kernel
theorem dX0_total_3 : decode cX0_total 3 = .ok (.istore_n 3, 1) := by decide +kernel
theorem dX0_total_4 : decode cX0_total 4 = .ok (.iload_n 3, 1) := by decide +kernel
theorem dX0_total_5 : decode cX0_total 5 = .ok (.aload_n 0, 1) := by decide +kernel
theorem dX0_total_6 : decode cX0_total 6 = .ok (.getfield 39, 3) := by decide +kernel
theorem dX0_total_9 : decode cX0_total 9 = .ok (.if_icmp .ge 61, 3) := by decide +kernel
theorem dX0_total_12 : decode cX0_total 12 = .ok (.aload_n 0, 1) := by decide +kernel
theorem dX0_total_13 : decode cX0_total 13 = .ok (.iload_n 3, 1) := by decide +kernel
theorem dX0_total_14 : decode cX0_total 14 = .ok (.aload_n 1, 1) := by decide +kernel
theorem dX0_total_15 : decode cX0_total 15 = .ok (.invokevirtual 71, 3) := by decide +kernel
theorem dX0_total_18 : decode cX0_total 18 = .ok (.ifCond .eq 9, 3) := by decide +kernel
theorem dX0_total_21 : decode cX0_total 21 = .ok (.iinc 2 1, 3) := by decide +kernel
theorem dX0_total_24 : decode cX0_total 24 = .ok (.goto 40, 3) := by decide +kernel
theorem dX0_total_27 : decode cX0_total 27 = .ok (.aload_n 0, 1) := by decide +kernel
theorem dX0_total_28 : decode cX0_total 28 = .ok (.getfield 26, 3) := by decide +kernel
theorem dX0_total_31 : decode cX0_total 31 = .ok (.iload_n 3, 1) := by decide +kernel
theorem dX0_total_32 : decode cX0_total 32 = .ok (.baload, 1) := by decide +kernel
theorem dX0_total_33 : decode cX0_total 33 = .ok (.ifCond .eq 31, 3) := by decide +kernel
theorem dX0_total_36 : decode cX0_total 36 = .ok (.aload_n 1, 1) := by decide +kernel
theorem dX0_total_37 : decode cX0_total 37 = .ok (.aload_n 0, 1) := by decide +kernel
theorem dX0_total_38 : decode cX0_total 38 = .ok (.iload_n 3, 1) := by decide +kernel
theorem dX0_total_39 : decode cX0_total 39 = .ok (.invokevirtual 79, 3) := by decide +kernel
theorem dX0_total_42 : decode cX0_total 42 = .ok (.aload_n 0, 1) := by decide +kernel
theorem dX0_total_43 : decode cX0_total 43 = .ok (.iload_n 3, 1) := by decide +kernel
theorem dX0_total_44 : decode cX0_total 44 = .ok (.iconst 1, 1) := by decide +kernel
theorem dX0_total_45 : decode cX0_total 45 = .ok (.iadd, 1) := by decide +kernel
theorem dX0_total_46 : decode cX0_total 46 = .ok (.invokevirtual 83, 3) := by decide +kernel
theorem dX0_total_49 : decode cX0_total 49 = .ok (.invokevirtual 86, 3) := by decide +kernel
theorem dX0_total_52 : decode cX0_total 52 = .ok (.ifCond .eq 12, 3) := by decide +kernel
theorem dX0_total_55 : decode cX0_total 55 = .ok (.iload_n 2, 1) := by decide +kernel
theorem dX0_total_56 : decode cX0_total 56 = .ok (.aload_n 0, 1) := by decide +kernel
theorem dX0_total_57 : decode cX0_total 57 = .ok (.getfield 23, 3) := by decide +kernel
theorem dX0_total_60 : decode cX0_total 60 = .ok (.iload_n 3, 1) := by decide +kernel
theorem dX0_total_61 : decode cX0_total 61 = .ok (.iaload, 1) := by decide +kernel
theorem dX0_total_62 : decode cX0_total 62 = .ok (.iadd, 1) := by decide +kernel
theorem dX0_total_63 : decode cX0_total 63 = .ok (.istore_n 2, 1) := by decide +kernel
theorem dX0_total_64 : decode cX0_total 64 = .ok (.iinc 3 1, 3) := by decide +kernel
theorem dX0_total_67 : decode cX0_total 67 = .ok (.goto (-63), 3) := by decide +kernel
theorem dX0_total_70 : decode cX0_total 70 = .ok (.iload_n 2, 1) := by decide +kernel
theorem dX0_total_71 : decode cX0_total 71 = .ok (.ireturn, 1) := by decide +kernel
theorem dX0_isRow_0 : decode cX0_isRow 0 = .ok (.aload_n 0, 1) := by decide +kernel
theorem dX0_isRow_1 : decode cX0_isRow 1 = .ok (.getfield 26, 3) := by decide +kernel
theorem dX0_isRow_4 : decode cX0_isRow 4 = .ok (.iload_n 1, 1) := by decide +kernel
theorem dX0_isRow_5 : decode cX0_isRow 5 = .ok (.baload, 1) := by decide +kernel
theorem dX0_isRow_6 : decode cX0_isRow 6 = .ok (.ifCond .ne 20, 3) := by decide +kernel
theorem dX0_isRow_9 : decode cX0_isRow 9 = .ok (.aload_n 2, 1) := by decide +kernel
theorem dX0_isRow_10 : decode cX0_isRow 10 = .ok (.aload_n 0, 1) := by decide +kernel
theorem dX0_isRow_11 : decode cX0_isRow 11 = .ok (.getfield 19, 3) := by decide +kernel
theorem dX0_isRow_14 : decode cX0_isRow 14 = .ok (.iload_n 1, 1) := by decide +kernel
theorem dX0_isRow_15 : decode cX0_isRow 15 = .ok (.iaload, 1) := by decide +kernel
theorem dX0_isRow_16 : decode cX0_isRow 16 = .ok (.invokevirtual 92, 3) := by decide +kernel
theorem dX0_isRow_19 : decode cX0_isRow 19 = .ok (.ifCond .eq 7, 3) := by decide +kernel
theorem dX0_isRow_22 : decode cX0_isRow 22 = .ok (.iconst 1, 1) := by decide +kernel
theorem dX0_isRow_23 : decode cX0_isRow 23 = .ok (.goto 4, 3) := by decide +kernel
theorem dX0_isRow_26 : decode cX0_isRow 26 = .ok (.iconst 0, 1) := by decide +kernel
theorem dX0_isRow_27 : decode cX0_isRow 27 = .ok (.ireturn, 1) := by decide +kernel
theorem dX0_readNode_0 : decode cX0_readNode 0 = .ok (.iload_n 1, 1) := by decide +kernel
theorem dX0_readNode_1 : decode cX0_readNode 1 = .ok (.bipush 6, 2) := by decide +kernel
theorem dX0_readNode_3 : decode cX0_readNode 3 = .ok (.if_icmp .gt 11, 3) := by decide +kernel
theorem dX0_readNode_6 : decode cX0_readNode 6 = .ok (.aload_n 0, 1) := by decide +kernel
theorem dX0_readNode_7 : decode cX0_readNode 7 = .ok (.iconst 2, 1) := by decide +kernel
theorem dX0_readNode_8 : decode cX0_readNode 8 = .ok (.invokevirtual 95, 3) := by decide +kernel
theorem dX0_readNode_11 : decode cX0_readNode 11 = .ok (.ifCond .ne 5, 3) := by decide +kernel
theorem dX0_readNode_14 : decode cX0_readNode 14 = .ok (.iconst 0, 1) := by decide +kernel
theorem dX0_readNode_15 : decode cX0_readNode 15 = .ok (.ireturn, 1) := by decide +kernel
theorem dX0_readNode_16 : decode cX0_readNode 16 = .ok (.aload_n 0, 1) := by decide +kernel
theorem dX0_readNode_17 : decode cX0_readNode 17 = .ok (.invokevirtual 98, 3) := by decide +kernel
theorem dX0_readNode_20 : decode cX0_readNode 20 = .ok (.istore_n 2, 1) := by decide +kernel
theorem dX0_readNode_21 : decode cX0_readNode 21 = .ok (.aload_n 0, 1) := by decide +kernel
theorem dX0_readNode_22 : decode cX0_readNode 22 = .ok (.invokevirtual 98, 3) := by decide +kernel
theorem dX0_readNode_25 : decode cX0_readNode 25 = .ok (.istore_n 3, 1) := by decide +kernel
theorem dX0_readNode_26 : decode cX0_readNode 26 = .ok (.iload_n 1, 1) := by decide +kernel
theorem dX0_readNode_27 : decode cX0_readNode 27 = .ok (.iconst 1, 1) := by decide +kernel
theorem dX0_readNode_28 : decode cX0_readNode 28 = .ok (.if_icmp .ne 7, 3) := by decide +kernel
theorem dX0_readNode_31 : decode cX0_readNode 31 = .ok (.iconst 1, 1) := by decide +kernel
theorem dX0_readNode_32 : decode cX0_readNode 32 = .ok (.goto 4, 3) := by decide +kernel
theorem dX0_readNode_35 : decode cX0_readNode 35 = .ok (.iconst 0, 1) := by decide +kernel
theorem dX0_readNode_36 : decode cX0_readNode 36 = .ok (.istore 4, 2) := by decide +kernel
theorem dX0_readNode_38 : decode cX0_readNode 38 = .ok (.iload_n 2, 1) := by decide +kernel
theorem dX0_readNode_39 : decode cX0_readNode 39 = .ok (.iconst 1, 1) := by decide +kernel
theorem dX0_readNode_40 : decode cX0_readNode 40 = .ok (.if_icmp .ne 39, 3) := by decide +kernel
theorem dX0_readNode_43 : decode cX0_readNode 43 = .ok (.iload_n 3, 1) := by decide +kernel
theorem dX0_readNode_44 : decode cX0_readNode 44 = .ok (.iload 4, 2) := by decide +kernel
theorem dX0_readNode_46 : decode cX0_readNode 46 = .ok (.ifCond .eq 7, 3) := by decide +kernel
theorem dX0_readNode_49 : decode cX0_readNode 49 = .ok (.iconst 0, 1) := by decide +kernel
theorem dX0_readNode_50 : decode cX0_readNode 50 = .ok (.goto 4, 3) := by decide +kernel
theorem dX0_readNode_53 : decode cX0_readNode 53 = .ok (.iconst 1, 1) := by decide +kernel
theorem dX0_readNode_54 : decode cX0_readNode 54 = .ok (.if_icmp .lt 23, 3) := by decide +kernel
theorem dX0_readNode_57 : decode cX0_readNode 57 = .ok (.iload_n 3, 1) := by decide +kernel
theorem dX0_readNode_58 : decode cX0_readNode 58 = .ok (.aload_n 0, 1) := by decide +kernel
theorem dX0_readNode_59 : decode cX0_readNode 59 = .ok (.getfield 9, 3) := by decide +kernel
theorem dX0_readNode_62 : decode cX0_readNode 62 = .ok (.if_icmp .gt 15, 3) := by decide +kernel
theorem dX0_readNode_65 : decode cX0_readNode 65 = .ok (.aload_n 0, 1) := by decide +kernel
theorem dX0_readNode_66 : decode cX0_readNode 66 = .ok (.iload_n 3, 1) := by decide +kernel
theorem dX0_readNode_67 : decode cX0_readNode 67 = .ok (.invokevirtual 102, 3) := by decide +kernel
theorem dX0_readNode_70 : decode cX0_readNode 70 = .ok (.ifCond .eq 7, 3) := by decide +kernel
theorem dX0_readNode_73 : decode cX0_readNode 73 = .ok (.iconst 1, 1) := by decide +kernel
theorem dX0_readNode_74 : decode cX0_readNode 74 = .ok (.goto 4, 3) := by decide +kernel
theorem dX0_readNode_77 : decode cX0_readNode 77 = .ok (.iconst 0, 1) := by decide +kernel
theorem dX0_readNode_78 : decode cX0_readNode 78 = .ok (.ireturn, 1) := by decide +kernel
theorem dX0_readNode_79 : decode cX0_readNode 79 = .ok (.iload_n 2, 1) := by decide +kernel
theorem dX0_readNode_80 : decode cX0_readNode 80 = .ok (.iconst 2, 1) := by decide +kernel
theorem dX0_readNode_81 : decode cX0_readNode 81 = .ok (.if_icmp .ne 38, 3) := by decide +kernel
theorem dX0_readNode_84 : decode cX0_readNode 84 = .ok (.iload_n 3, 1) := by decide +kernel
theorem dX0_readNode_85 : decode cX0_readNode 85 = .ok (.iload 4, 2) := by decide +kernel
theorem dX0_readNode_87 : decode cX0_readNode 87 = .ok (.ifCond .eq 7, 3) := by decide +kernel
theorem dX0_readNode_90 : decode cX0_readNode 90 = .ok (.iconst 2, 1) := by decide +kernel
theorem dX0_readNode_91 : decode cX0_readNode 91 = .ok (.goto 4, 3) := by decide +kernel
theorem dX0_readNode_94 : decode cX0_readNode 94 = .ok (.iconst 1, 1) := by decide +kernel
theorem dX0_readNode_95 : decode cX0_readNode 95 = .ok (.if_icmp .lt 24, 3) := by decide +kernel
theorem dX0_readNode_98 : decode cX0_readNode 98 = .ok (.iload_n 3, 1) := by decide +kernel
theorem dX0_readNode_99 : decode cX0_readNode 99 = .ok (.aload_n 0, 1) := by decide +kernel
theorem dX0_readNode_100 : decode cX0_readNode 100 = .ok (.getfield 9, 3) := by decide +kernel
theorem dX0_readNode_103 : decode cX0_readNode 103 = .ok (.if_icmp .gt 16, 3) := by decide +kernel
theorem dX0_readNode_106 : decode cX0_readNode 106 = .ok (.aload_n 0, 1) := by decide +kernel
theorem dX0_readNode_107 : decode cX0_readNode 107 = .ok (.iload_n 3, 1) := by decide +kernel
theorem dX0_readNode_108 : decode cX0_readNode 108 = .ok (.iload_n 1, 1) := by decide +kernel
theorem dX0_readNode_109 : decode cX0_readNode 109 = .ok (.invokevirtual 105, 3) := by decide +kernel
theorem dX0_readNode_112 : decode cX0_readNode 112 = .ok (.ifCond .eq 7, 3) := by decide +kernel
theorem dX0_readNode_115 : decode cX0_readNode 115 = .ok (.iconst 1, 1) := by decide +kernel
theorem dX0_readNode_116 : decode cX0_readNode 116 = .ok (.goto 4, 3) := by decide +kernel
theorem dX0_readNode_119 : decode cX0_readNode 119 = .ok (.iconst 0, 1) := by decide +kernel
theorem dX0_readNode_120 : decode cX0_readNode 120 = .ok (.ireturn, 1) := by decide +kernel
theorem dX0_readEntries_0 : decode cX0_readEntries 0 = .ok (.aload_n 0, 1) := by decide +kernel
theorem dX0_readEntries_1 : decode cX0_readEntries 1 = .ok (.iconst 2, 1) := by decide +kernel
theorem dX0_readEntries_2 : decode cX0_readEntries 2 = .ok (.iload_n 1, 1) := by decide +kernel
theorem dX0_readEntries_3 : decode cX0_readEntries 3 = .ok (.imul, 1) := by decide +kernel
theorem dX0_readEntries_4 : decode cX0_readEntries 4 = .ok (.invokevirtual 95, 3) := by decide +kernel
theorem dX0_readEntries_7 : decode cX0_readEntries 7 = .ok (.ifCond .ne 5, 3) := by decide +kernel
theorem dX0_readEntries_10 : decode cX0_readEntries 10 = .ok (.iconst 0, 1) := by decide +kernel
theorem dX0_readEntries_11 : decode cX0_readEntries 11 = .ok (.ireturn, 1) := by decide +kernel
theorem dX0_readEntries_12 : decode cX0_readEntries 12 = .ok (.aload_n 0, 1) := by decide +kernel
theorem dX0_readEntries_13 : decode cX0_readEntries 13 = .ok (.getfield 39, 3) := by decide +kernel
theorem dX0_readEntries_16 : decode cX0_readEntries 16 = .ok (.istore_n 2, 1) := by decide +kernel
theorem dX0_readEntries_17 : decode cX0_readEntries 17 = .ok (.iconst 1, 1) := by decide +kernel
theorem dX0_readEntries_18 : decode cX0_readEntries 18 = .ok (.iconst 1, 1) := by decide +kernel
theorem dX0_readEntries_19 : decode cX0_readEntries 19 = .ok (.invokestatic 109, 3) := by decide +kernel
theorem dX0_readEntries_22 : decode cX0_readEntries 22 = .ok (.iload_n 1, 1) := by decide +kernel
theorem dX0_readEntries_23 : decode cX0_readEntries 23 = .ok (.invokestatic 109, 3) := by decide +kernel
theorem dX0_readEntries_26 : decode cX0_readEntries 26 = .ok (.istore_n 3, 1) := by decide +kernel
theorem dX0_readEntries_27 : decode cX0_readEntries 27 = .ok (.iconst 0, 1) := by decide +kernel
theorem dX0_readEntries_28 : decode cX0_readEntries 28 = .ok (.istore 4, 2) := by decide +kernel
theorem dX0_readEntries_30 : decode cX0_readEntries 30 = .ok (.iload 4, 2) := by decide +kernel
theorem dX0_readEntries_32 : decode cX0_readEntries 32 = .ok (.iload_n 1, 1) := by decide +kernel
theorem dX0_readEntries_33 : decode cX0_readEntries 33 = .ok (.if_icmp .ge 42, 3) := by decide +kernel
theorem dX0_readEntries_36 : decode cX0_readEntries 36 = .ok (.aload_n 0, 1) := by decide +kernel
theorem dX0_readEntries_37 : decode cX0_readEntries 37 = .ok (.invokevirtual 98, 3) := by decide +kernel
theorem dX0_readEntries_40 : decode cX0_readEntries 40 = .ok (.istore 5, 2) := by decide +kernel
theorem dX0_readEntries_42 : decode cX0_readEntries 42 = .ok (.aload_n 0, 1) := by decide +kernel
theorem dX0_readEntries_43 : decode cX0_readEntries 43 = .ok (.invokevirtual 98, 3) := by decide +kernel
theorem dX0_readEntries_46 : decode cX0_readEntries 46 = .ok (.istore 6, 2) := by decide +kernel
theorem dX0_readEntries_48 : decode cX0_readEntries 48 = .ok (.aload_n 0, 1) := by decide +kernel
theorem dX0_readEntries_49 : decode cX0_readEntries 49 = .ok (.iload 5, 2) := by decide +kernel
theorem dX0_readEntries_51 : decode cX0_readEntries 51 = .ok (.iload 6, 2) := by decide +kernel
theorem dX0_readEntries_53 : decode cX0_readEntries 53 = .ok (.iconst 0, 1) := by decide +kernel
theorem dX0_readEntries_54 : decode cX0_readEntries 54 = .ok (.invokevirtual 113, 3) := by decide +kernel
theorem dX0_readEntries_57 : decode cX0_readEntries 57 = .ok (.iload_n 3, 1) := by decide +kernel
theorem dX0_readEntries_58 : decode cX0_readEntries 58 = .ok (.iload 5, 2) := by decide +kernel
theorem dX0_readEntries_60 : decode cX0_readEntries 60 = .ok (.invokestatic 109, 3) := by decide +kernel
theorem dX0_readEntries_63 : decode cX0_readEntries 63 = .ok (.iload 6, 2) := by decide +kernel
theorem dX0_readEntries_65 : decode cX0_readEntries 65 = .ok (.invokestatic 109, 3) := by decide +kernel
theorem dX0_readEntries_68 : decode cX0_readEntries 68 = .ok (.istore_n 3, 1) := by decide +kernel
theorem dX0_readEntries_69 : decode cX0_readEntries 69 = .ok (.iinc 4 1, 3) := by decide +kernel
theorem dX0_readEntries_72 : decode cX0_readEntries 72 = .ok (.goto (-42), 3) := by decide +kernel
theorem dX0_readEntries_75 : decode cX0_readEntries 75 = .ok (.aload_n 0, 1) := by decide +kernel
theorem dX0_readEntries_76 : decode cX0_readEntries 76 = .ok (.iload_n 1, 1) := by decide +kernel
theorem dX0_readEntries_77 : decode cX0_readEntries 77 = .ok (.ifCond .le 12, 3) := by decide +kernel
theorem dX0_readEntries_80 : decode cX0_readEntries 80 = .ok (.aload_n 0, 1) := by decide +kernel
theorem dX0_readEntries_81 : decode cX0_readEntries 81 = .ok (.getfield 19, 3) := by decide +kernel
theorem dX0_readEntries_84 : decode cX0_readEntries 84 = .ok (.iload_n 2, 1) := by decide +kernel
theorem dX0_readEntries_85 : decode cX0_readEntries 85 = .ok (.iaload, 1) := by decide +kernel
theorem dX0_readEntries_86 : decode cX0_readEntries 86 = .ok (.goto 4, 3) := by decide +kernel
theorem dX0_readEntries_89 : decode cX0_readEntries 89 = .ok (.iconst 0, 1) := by decide +kernel
theorem dX0_readEntries_90 : decode cX0_readEntries 90 = .ok (.putfield 117, 3) := by decide +kernel
theorem dX0_readEntries_93 : decode cX0_readEntries 93 = .ok (.aload_n 0, 1) := by decide +kernel
theorem dX0_readEntries_94 : decode cX0_readEntries 94 = .ok (.iload_n 1, 1) := by decide +kernel
theorem dX0_readEntries_95 : decode cX0_readEntries 95 = .ok (.putfield 120, 3) := by decide +kernel
theorem dX0_readEntries_98 : decode cX0_readEntries 98 = .ok (.aload_n 0, 1) := by decide +kernel
theorem dX0_readEntries_99 : decode cX0_readEntries 99 = .ok (.iload_n 3, 1) := by decide +kernel
theorem dX0_readEntries_100 : decode cX0_readEntries 100 = .ok (.putfield 54, 3) := by decide +kernel
theorem dX0_readEntries_103 : decode cX0_readEntries 103 = .ok (.iconst 1, 1) := by decide +kernel
theorem dX0_readEntries_104 : decode cX0_readEntries 104 = .ok (.ireturn, 1) := by decide +kernel
theorem dX0_readChildren_0 : decode cX0_readChildren 0 = .ok (.iconst 0, 1) := by decide +kernel
theorem dX0_readChildren_1 : decode cX0_readChildren 1 = .ok (.istore_n 3, 1) := by decide +kernel
theorem dX0_readChildren_2 : decode cX0_readChildren 2 = .ok (.iconst 0, 1) := by decide +kernel
theorem dX0_readChildren_3 : decode cX0_readChildren 3 = .ok (.istore 4, 2) := by decide +kernel
theorem dX0_readChildren_5 : decode cX0_readChildren 5 = .ok (.iconst 1, 1) := by decide +kernel
theorem dX0_readChildren_6 : decode cX0_readChildren 6 = .ok (.iconst 2, 1) := by decide +kernel
theorem dX0_readChildren_7 : decode cX0_readChildren 7 = .ok (.invokestatic 109, 3) := by decide +kernel
theorem dX0_readChildren_10 : decode cX0_readChildren 10 = .ok (.iload_n 1, 1) := by decide +kernel
theorem dX0_readChildren_11 : decode cX0_readChildren 11 = .ok (.invokestatic 109, 3) := by decide +kernel
theorem dX0_readChildren_14 : decode cX0_readChildren 14 = .ok (.istore 5, 2) := by decide +kernel
theorem dX0_readChildren_16 : decode cX0_readChildren 16 = .ok (.iconst 0, 1) := by decide +kernel
theorem dX0_readChildren_17 : decode cX0_readChildren 17 = .ok (.istore 6, 2) := by decide +kernel
theorem dX0_readChildren_19 : decode cX0_readChildren 19 = .ok (.iload 6, 2) := by decide +kernel
theorem dX0_readChildren_21 : decode cX0_readChildren 21 = .ok (.iload_n 1, 1) := by decide +kernel
theorem dX0_readChildren_22 : decode cX0_readChildren 22 = .ok (.if_icmp .ge 65, 3) := by decide +kernel
theorem dX0_readChildren_25 : decode cX0_readChildren 25 = .ok (.aload_n 0, 1) := by decide +kernel
theorem dX0_readChildren_26 : decode cX0_readChildren 26 = .ok (.iload_n 2, 1) := by decide +kernel
theorem dX0_readChildren_27 : decode cX0_readChildren 27 = .ok (.iconst 1, 1) := by decide +kernel
theorem dX0_readChildren_28 : decode cX0_readChildren 28 = .ok (.iadd, 1) := by decide +kernel
theorem dX0_readChildren_29 : decode cX0_readChildren 29 = .ok (.invokevirtual 123, 3) := by decide +kernel
theorem dX0_readChildren_32 : decode cX0_readChildren 32 = .ok (.ifCond .ne 5, 3) := by decide +kernel
theorem dX0_readChildren_35 : decode cX0_readChildren 35 = .ok (.iconst 0, 1) := by decide +kernel
theorem dX0_readChildren_36 : decode cX0_readChildren 36 = .ok (.ireturn, 1) := by decide +kernel
theorem dX0_readChildren_37 : decode cX0_readChildren 37 = .ok (.iload 6, 2) := by decide +kernel
theorem dX0_readChildren_39 : decode cX0_readChildren 39 = .ok (.ifCond .ne 8, 3) := by decide +kernel
theorem dX0_readChildren_42 : decode cX0_readChildren 42 = .ok (.aload_n 0, 1) := by decide +kernel
theorem dX0_readChildren_43 : decode cX0_readChildren 43 = .ok (.getfield 117, 3) := by decide +kernel
theorem dX0_readChildren_46 : decode cX0_readChildren 46 = .ok (.istore_n 3, 1) := by decide +kernel
theorem dX0_readChildren_47 : decode cX0_readChildren 47 = .ok (.iload 4, 2) := by decide +kernel
theorem dX0_readChildren_49 : decode cX0_readChildren 49 = .ok (.aload_n 0, 1) := by decide +kernel
theorem dX0_readChildren_50 : decode cX0_readChildren 50 = .ok (.getfield 120, 3) := by decide +kernel
theorem dX0_readChildren_53 : decode cX0_readChildren 53 = .ok (.iadd, 1) := by decide +kernel
theorem dX0_readChildren_54 : decode cX0_readChildren 54 = .ok (.istore 4, 2) := by decide +kernel
theorem dX0_readChildren_56 : decode cX0_readChildren 56 = .ok (.iload 5, 2) := by decide +kernel
theorem dX0_readChildren_58 : decode cX0_readChildren 58 = .ok (.aload_n 0, 1) := by decide +kernel
theorem dX0_readChildren_59 : decode cX0_readChildren 59 = .ok (.getfield 117, 3) := by decide +kernel
theorem dX0_readChildren_62 : decode cX0_readChildren 62 = .ok (.invokestatic 109, 3) := by decide +kernel
theorem dX0_readChildren_65 : decode cX0_readChildren 65 = .ok (.aload_n 0, 1) := by decide +kernel
theorem dX0_readChildren_66 : decode cX0_readChildren 66 = .ok (.getfield 54, 3) := by decide +kernel
theorem dX0_readChildren_69 : decode cX0_readChildren 69 = .ok (.invokestatic 109, 3) := by decide +kernel
theorem dX0_readChildren_72 : decode cX0_readChildren 72 = .ok (.aload_n 0, 1) := by decide +kernel
theorem dX0_readChildren_73 : decode cX0_readChildren 73 = .ok (.getfield 120, 3) := by decide +kernel
theorem dX0_readChildren_76 : decode cX0_readChildren 76 = .ok (.invokestatic 109, 3) := by decide +kernel
theorem dX0_readChildren_79 : decode cX0_readChildren 79 = .ok (.istore 5, 2) := by decide +kernel
theorem dX0_readChildren_81 : decode cX0_readChildren 81 = .ok (.iinc 6 1, 3) := by decide +kernel
theorem dX0_readChildren_84 : decode cX0_readChildren 84 = .ok (.goto (-65), 3) := by decide +kernel
theorem dX0_readChildren_87 : decode cX0_readChildren 87 = .ok (.aload_n 0, 1) := by decide +kernel
theorem dX0_readChildren_88 : decode cX0_readChildren 88 = .ok (.iload_n 3, 1) := by decide +kernel
theorem dX0_readChildren_89 : decode cX0_readChildren 89 = .ok (.putfield 117, 3) := by decide +kernel
theorem dX0_readChildren_92 : decode cX0_readChildren 92 = .ok (.aload_n 0, 1) := by decide +kernel
theorem dX0_readChildren_93 : decode cX0_readChildren 93 = .ok (.iload 4, 2) := by decide +kernel
theorem dX0_readChildren_95 : decode cX0_readChildren 95 = .ok (.putfield 120, 3) := by decide +kernel
theorem dX0_readChildren_98 : decode cX0_readChildren 98 = .ok (.aload_n 0, 1) := by decide +kernel
theorem dX0_readChildren_99 : decode cX0_readChildren 99 = .ok (.iload 5, 2) := by decide +kernel
theorem dX0_readChildren_101 : decode cX0_readChildren 101 = .ok (.putfield 54, 3) := by decide +kernel
theorem dX0_readChildren_104 : decode cX0_readChildren 104 = .ok (.iconst 1, 1) := by decide +kernel
theorem dX0_readChildren_105 : decode cX0_readChildren 105 = .ok (.ireturn, 1) := by decide +kernel
theorem dX0_readChild_0 : decode cX0_readChild 0 = .ok (.aload_n 0, 1) := by decide +kernel
theorem dX0_readChild_1 : decode cX0_readChild 1 = .ok (.iconst 1, 1) := by decide +kernel
theorem dX0_readChild_2 : decode cX0_readChild 2 = .ok (.invokevirtual 95, 3) := by decide +kernel
theorem dX0_readChild_5 : decode cX0_readChild 5 = .ok (.ifCond .eq 24, 3) := by decide +kernel
theorem dX0_readChild_8 : decode cX0_readChild 8 = .ok (.aload_n 0, 1) := by decide +kernel
theorem dX0_readChild_9 : decode cX0_readChild 9 = .ok (.getfield 15, 3) := by decide +kernel
theorem dX0_readChild_12 : decode cX0_readChild 12 = .ok (.getfield 126, 3) := by decide +kernel
theorem dX0_readChild_15 : decode cX0_readChild 15 = .ok (.aload_n 0, 1) := by decide +kernel
theorem dX0_readChild_16 : decode cX0_readChild 16 = .ok (.getfield 36, 3) := by decide +kernel
theorem dX0_readChild_19 : decode cX0_readChild 19 = .ok (.iaload, 1) := by decide +kernel
theorem dX0_readChild_20 : decode cX0_readChild 20 = .ok (.ifCond .ne 9, 3) := by decide +kernel
theorem dX0_readChild_23 : decode cX0_readChild 23 = .ok (.aload_n 0, 1) := by decide +kernel
theorem dX0_readChild_24 : decode cX0_readChild 24 = .ok (.iload_n 1, 1) := by decide +kernel
theorem dX0_readChild_25 : decode cX0_readChild 25 = .ok (.invokevirtual 129, 3) := by decide +kernel
theorem dX0_readChild_28 : decode cX0_readChild 28 = .ok (.ireturn, 1) := by decide +kernel
theorem dX0_readChild_29 : decode cX0_readChild 29 = .ok (.aload_n 0, 1) := by decide +kernel
theorem dX0_readChild_30 : decode cX0_readChild 30 = .ok (.getfield 39, 3) := by decide +kernel
theorem dX0_readChild_33 : decode cX0_readChild 33 = .ok (.istore_n 2, 1) := by decide +kernel
theorem dX0_readChild_34 : decode cX0_readChild 34 = .ok (.aload_n 0, 1) := by decide +kernel
theorem dX0_readChild_35 : decode cX0_readChild 35 = .ok (.iload_n 1, 1) := by decide +kernel
theorem dX0_readChild_36 : decode cX0_readChild 36 = .ok (.invokevirtual 45, 3) := by decide +kernel
theorem dX0_readChild_39 : decode cX0_readChild 39 = .ok (.ifCond .ne 5, 3) := by decide +kernel
theorem dX0_readChild_42 : decode cX0_readChild 42 = .ok (.iconst 0, 1) := by decide +kernel
theorem dX0_readChild_43 : decode cX0_readChild 43 = .ok (.ireturn, 1) := by decide +kernel
theorem dX0_readChild_44 : decode cX0_readChild 44 = .ok (.aload_n 0, 1) := by decide +kernel
theorem dX0_readChild_45 : decode cX0_readChild 45 = .ok (.iload_n 2, 1) := by decide +kernel
theorem dX0_readChild_46 : decode cX0_readChild 46 = .ok (.invokevirtual 132, 3) := by decide +kernel
theorem dX0_readChild_49 : decode cX0_readChild 49 = .ok (.iconst 1, 1) := by decide +kernel
theorem dX0_readChild_50 : decode cX0_readChild 50 = .ok (.ireturn, 1) := by decide +kernel
theorem dX0_readLeftOut_0 : decode cX0_readLeftOut 0 = .ok (.iload_n 1, 1) := by decide +kernel
theorem dX0_readLeftOut_1 : decode cX0_readLeftOut 1 = .ok (.bipush 6, 2) := by decide +kernel
theorem dX0_readLeftOut_3 : decode cX0_readLeftOut 3 = .ok (.if_icmp .gt 11, 3) := by decide +kernel
theorem dX0_readLeftOut_6 : decode cX0_readLeftOut 6 = .ok (.aload_n 0, 1) := by decide +kernel
theorem dX0_readLeftOut_7 : decode cX0_readLeftOut 7 = .ok (.iconst 4, 1) := by decide +kernel
theorem dX0_readLeftOut_8 : decode cX0_readLeftOut 8 = .ok (.invokevirtual 95, 3) := by decide +kernel
theorem dX0_readLeftOut_11 : decode cX0_readLeftOut 11 = .ok (.ifCond .ne 5, 3) := by decide +kernel
theorem dX0_readLeftOut_14 : decode cX0_readLeftOut 14 = .ok (.iconst 0, 1) := by decide +kernel
theorem dX0_readLeftOut_15 : decode cX0_readLeftOut 15 = .ok (.ireturn, 1) := by decide +kernel
theorem dX0_readLeftOut_16 : decode cX0_readLeftOut 16 = .ok (.aload_n 0, 1) := by decide +kernel
theorem dX0_readLeftOut_17 : decode cX0_readLeftOut 17 = .ok (.dup, 1) := by decide +kernel
theorem dX0_readLeftOut_18 : decode cX0_readLeftOut 18 = .ok (.getfield 36, 3) := by decide +kernel
theorem dX0_readLeftOut_21 : decode cX0_readLeftOut 21 = .ok (.iconst 1, 1) := by decide +kernel
theorem dX0_readLeftOut_22 : decode cX0_readLeftOut 22 = .ok (.iadd, 1) := by decide +kernel
theorem dX0_readLeftOut_23 : decode cX0_readLeftOut 23 = .ok (.putfield 36, 3) := by decide +kernel
theorem dX0_readLeftOut_26 : decode cX0_readLeftOut 26 = .ok (.aload_n 0, 1) := by decide +kernel
theorem dX0_readLeftOut_27 : decode cX0_readLeftOut 27 = .ok (.aload_n 0, 1) := by decide +kernel
theorem dX0_readLeftOut_28 : decode cX0_readLeftOut 28 = .ok (.invokevirtual 98, 3) := by decide +kernel
theorem dX0_readLeftOut_31 : decode cX0_readLeftOut 31 = .ok (.putfield 117, 3) := by decide +kernel
theorem dX0_readLeftOut_34 : decode cX0_readLeftOut 34 = .ok (.aload_n 0, 1) := by decide +kernel
theorem dX0_readLeftOut_35 : decode cX0_readLeftOut 35 = .ok (.aload_n 0, 1) := by decide +kernel
theorem dX0_readLeftOut_36 : decode cX0_readLeftOut 36 = .ok (.invokevirtual 98, 3) := by decide +kernel
theorem dX0_readLeftOut_39 : decode cX0_readLeftOut 39 = .ok (.putfield 54, 3) := by decide +kernel
theorem dX0_readLeftOut_42 : decode cX0_readLeftOut 42 = .ok (.aload_n 0, 1) := by decide +kernel
theorem dX0_readLeftOut_43 : decode cX0_readLeftOut 43 = .ok (.aload_n 0, 1) := by decide +kernel
theorem dX0_readLeftOut_44 : decode cX0_readLeftOut 44 = .ok (.invokevirtual 98, 3) := by decide +kernel
theorem dX0_readLeftOut_47 : decode cX0_readLeftOut 47 = .ok (.putfield 120, 3) := by decide +kernel
theorem dX0_readLeftOut_50 : decode cX0_readLeftOut 50 = .ok (.aload_n 0, 1) := by decide +kernel
theorem dX0_readLeftOut_51 : decode cX0_readLeftOut 51 = .ok (.aload_n 0, 1) := by decide +kernel
theorem dX0_readLeftOut_52 : decode cX0_readLeftOut 52 = .ok (.getfield 117, 3) := by decide +kernel
theorem dX0_readLeftOut_55 : decode cX0_readLeftOut 55 = .ok (.aload_n 0, 1) := by decide +kernel
theorem dX0_readLeftOut_56 : decode cX0_readLeftOut 56 = .ok (.getfield 120, 3) := by decide +kernel
theorem dX0_readLeftOut_59 : decode cX0_readLeftOut 59 = .ok (.iconst 1, 1) := by decide +kernel
theorem dX0_readLeftOut_60 : decode cX0_readLeftOut 60 = .ok (.invokevirtual 113, 3) := by decide +kernel
theorem dX0_readLeftOut_63 : decode cX0_readLeftOut 63 = .ok (.aload_n 0, 1) := by decide +kernel
theorem dX0_readLeftOut_64 : decode cX0_readLeftOut 64 = .ok (.getfield 120, 3) := by decide +kernel
theorem dX0_readLeftOut_67 : decode cX0_readLeftOut 67 = .ok (.iconst 1, 1) := by decide +kernel
theorem dX0_readLeftOut_68 : decode cX0_readLeftOut 68 = .ok (.if_icmp .lt 7, 3) := by decide +kernel
theorem dX0_readLeftOut_71 : decode cX0_readLeftOut 71 = .ok (.iconst 1, 1) := by decide +kernel
theorem dX0_readLeftOut_72 : decode cX0_readLeftOut 72 = .ok (.goto 4, 3) := by decide +kernel
theorem dX0_readLeftOut_75 : decode cX0_readLeftOut 75 = .ok (.iconst 0, 1) := by decide +kernel
theorem dX0_readLeftOut_76 : decode cX0_readLeftOut 76 = .ok (.ireturn, 1) := by decide +kernel
theorem dX0_hasMore_0 : decode cX0_hasMore 0 = .ok (.aload_n 0, 1) := by decide +kernel
theorem dX0_hasMore_1 : decode cX0_hasMore 1 = .ok (.getfield 15, 3) := by decide +kernel
theorem dX0_hasMore_4 : decode cX0_hasMore 4 = .ok (.getfield 49, 3) := by decide +kernel
theorem dX0_hasMore_7 : decode cX0_hasMore 7 = .ok (.aload_n 0, 1) := by decide +kernel
theorem dX0_hasMore_8 : decode cX0_hasMore 8 = .ok (.getfield 36, 3) := by decide +kernel
theorem dX0_hasMore_11 : decode cX0_hasMore 11 = .ok (.isub, 1) := by decide +kernel
theorem dX0_hasMore_12 : decode cX0_hasMore 12 = .ok (.iload_n 1, 1) := by decide +kernel
theorem dX0_hasMore_13 : decode cX0_hasMore 13 = .ok (.if_icmp .lt 7, 3) := by decide +kernel
theorem dX0_hasMore_16 : decode cX0_hasMore 16 = .ok (.iconst 1, 1) := by decide +kernel
theorem dX0_hasMore_17 : decode cX0_hasMore 17 = .ok (.goto 4, 3) := by decide +kernel
theorem dX0_hasMore_20 : decode cX0_hasMore 20 = .ok (.iconst 0, 1) := by decide +kernel
theorem dX0_hasMore_21 : decode cX0_hasMore 21 = .ok (.ireturn, 1) := by decide +kernel
theorem dX0_next_0 : decode cX0_next 0 = .ok (.aload_n 0, 1) := by decide +kernel
theorem dX0_next_1 : decode cX0_next 1 = .ok (.getfield 15, 3) := by decide +kernel
theorem dX0_next_4 : decode cX0_next 4 = .ok (.aload_n 0, 1) := by decide +kernel
theorem dX0_next_5 : decode cX0_next 5 = .ok (.getfield 36, 3) := by decide +kernel
theorem dX0_next_8 : decode cX0_next 8 = .ok (.invokevirtual 136, 3) := by decide +kernel
theorem dX0_next_11 : decode cX0_next 11 = .ok (.ifCond .eq 18, 3) := by decide +kernel
theorem dX0_next_14 : decode cX0_next 14 = .ok (.aload_n 0, 1) := by decide +kernel
theorem dX0_next_15 : decode cX0_next 15 = .ok (.getfield 15, 3) := by decide +kernel
theorem dX0_next_18 : decode cX0_next 18 = .ok (.getfield 126, 3) := by decide +kernel
theorem dX0_next_21 : decode cX0_next 21 = .ok (.aload_n 0, 1) := by decide +kernel
theorem dX0_next_22 : decode cX0_next 22 = .ok (.getfield 36, 3) := by decide +kernel
theorem dX0_next_25 : decode cX0_next 25 = .ok (.iaload, 1) := by decide +kernel
theorem dX0_next_26 : decode cX0_next 26 = .ok (.goto 4, 3) := by decide +kernel
theorem dX0_next_29 : decode cX0_next 29 = .ok (.iconst 0, 1) := by decide +kernel
theorem dX0_next_30 : decode cX0_next 30 = .ok (.istore_n 1, 1) := by decide +kernel
theorem dX0_next_31 : decode cX0_next 31 = .ok (.aload_n 0, 1) := by decide +kernel
theorem dX0_next_32 : decode cX0_next 32 = .ok (.dup, 1) := by decide +kernel
theorem dX0_next_33 : decode cX0_next 33 = .ok (.getfield 36, 3) := by decide +kernel
theorem dX0_next_36 : decode cX0_next 36 = .ok (.iconst 1, 1) := by decide +kernel
theorem dX0_next_37 : decode cX0_next 37 = .ok (.iadd, 1) := by decide +kernel
theorem dX0_next_38 : decode cX0_next 38 = .ok (.putfield 36, 3) := by decide +kernel
theorem dX0_next_41 : decode cX0_next 41 = .ok (.iload_n 1, 1) := by decide +kernel
theorem dX0_next_42 : decode cX0_next 42 = .ok (.ireturn, 1) := by decide +kernel
theorem dX0_note_0 : decode cX0_note 0 = .ok (.aload_n 0, 1) := by decide +kernel
theorem dX0_note_1 : decode cX0_note 1 = .ok (.getfield 39, 3) := by decide +kernel
theorem dX0_note_4 : decode cX0_note 4 = .ok (.aload_n 0, 1) := by decide +kernel
theorem dX0_note_5 : decode cX0_note 5 = .ok (.getfield 19, 3) := by decide +kernel
theorem dX0_note_8 : decode cX0_note 8 = .ok (.arraylength, 1) := by decide +kernel
theorem dX0_note_9 : decode cX0_note 9 = .ok (.if_icmp .ge 43, 3) := by decide +kernel
theorem dX0_note_12 : decode cX0_note 12 = .ok (.aload_n 0, 1) := by decide +kernel
theorem dX0_note_13 : decode cX0_note 13 = .ok (.getfield 19, 3) := by decide +kernel
theorem dX0_note_16 : decode cX0_note 16 = .ok (.aload_n 0, 1) := by decide +kernel
theorem dX0_note_17 : decode cX0_note 17 = .ok (.getfield 39, 3) := by decide +kernel
theorem dX0_note_20 : decode cX0_note 20 = .ok (.iload_n 1, 1) := by decide +kernel
theorem dX0_note_21 : decode cX0_note 21 = .ok (.iastore, 1) := by decide +kernel
theorem dX0_note_22 : decode cX0_note 22 = .ok (.aload_n 0, 1) := by decide +kernel
theorem dX0_note_23 : decode cX0_note 23 = .ok (.getfield 23, 3) := by decide +kernel
theorem dX0_note_26 : decode cX0_note 26 = .ok (.aload_n 0, 1) := by decide +kernel
theorem dX0_note_27 : decode cX0_note 27 = .ok (.getfield 39, 3) := by decide +kernel
theorem dX0_note_30 : decode cX0_note 30 = .ok (.iload_n 2, 1) := by decide +kernel
theorem dX0_note_31 : decode cX0_note 31 = .ok (.iastore, 1) := by decide +kernel
theorem dX0_note_32 : decode cX0_note 32 = .ok (.aload_n 0, 1) := by decide +kernel
theorem dX0_note_33 : decode cX0_note 33 = .ok (.getfield 26, 3) := by decide +kernel
theorem dX0_note_36 : decode cX0_note 36 = .ok (.aload_n 0, 1) := by decide +kernel
theorem dX0_note_37 : decode cX0_note 37 = .ok (.getfield 39, 3) := by decide +kernel
theorem dX0_note_40 : decode cX0_note 40 = .ok (.iload_n 3, 1) := by decide +kernel
theorem dX0_note_41 : decode cX0_note 41 = .ok (.bastore, 1) := by decide +kernel
theorem dX0_note_42 : decode cX0_note 42 = .ok (.aload_n 0, 1) := by decide +kernel
theorem dX0_note_43 : decode cX0_note 43 = .ok (.dup, 1) := by decide +kernel
theorem dX0_note_44 : decode cX0_note 44 = .ok (.getfield 39, 3) := by decide +kernel
theorem dX0_note_47 : decode cX0_note 47 = .ok (.iconst 1, 1) := by decide +kernel
theorem dX0_note_48 : decode cX0_note 48 = .ok (.iadd, 1) := by decide +kernel
theorem dX0_note_49 : decode cX0_note 49 = .ok (.putfield 39, 3) := by decide +kernel
theorem dX0_note_52 : decode cX0_note 52 = .ok (.return_, 1) := by decide +kernel
theorem dX0_noteChild_0 : decode cX0_noteChild 0 = .ok (.aload_n 0, 1) := by decide +kernel
theorem dX0_noteChild_1 : decode cX0_noteChild 1 = .ok (.getfield 42, 3) := by decide +kernel
theorem dX0_noteChild_4 : decode cX0_noteChild 4 = .ok (.aload_n 0, 1) := by decide +kernel
theorem dX0_noteChild_5 : decode cX0_noteChild 5 = .ok (.getfield 30, 3) := by decide +kernel
theorem dX0_noteChild_8 : decode cX0_noteChild 8 = .ok (.arraylength, 1) := by decide +kernel
theorem dX0_noteChild_9 : decode cX0_noteChild 9 = .ok (.if_icmp .ge 36, 3) := by decide +kernel
theorem dX0_noteChild_12 : decode cX0_noteChild 12 = .ok (.aload_n 0, 1) := by decide +kernel
theorem dX0_noteChild_13 : decode cX0_noteChild 13 = .ok (.getfield 30, 3) := by decide +kernel
theorem dX0_noteChild_16 : decode cX0_noteChild 16 = .ok (.aload_n 0, 1) := by decide +kernel
theorem dX0_noteChild_17 : decode cX0_noteChild 17 = .ok (.getfield 42, 3) := by decide +kernel
theorem dX0_noteChild_20 : decode cX0_noteChild 20 = .ok (.iload_n 1, 1) := by decide +kernel
theorem dX0_noteChild_21 : decode cX0_noteChild 21 = .ok (.iastore, 1) := by decide +kernel
theorem dX0_noteChild_22 : decode cX0_noteChild 22 = .ok (.aload_n 0, 1) := by decide +kernel
theorem dX0_noteChild_23 : decode cX0_noteChild 23 = .ok (.getfield 33, 3) := by decide +kernel
theorem dX0_noteChild_26 : decode cX0_noteChild 26 = .ok (.aload_n 0, 1) := by decide +kernel
theorem dX0_noteChild_27 : decode cX0_noteChild 27 = .ok (.getfield 42, 3) := by decide +kernel
theorem dX0_noteChild_30 : decode cX0_noteChild 30 = .ok (.aload_n 0, 1) := by decide +kernel
theorem dX0_noteChild_31 : decode cX0_noteChild 31 = .ok (.getfield 39, 3) := by decide +kernel
theorem dX0_noteChild_34 : decode cX0_noteChild 34 = .ok (.iastore, 1) := by decide +kernel
theorem dX0_noteChild_35 : decode cX0_noteChild 35 = .ok (.aload_n 0, 1) := by decide +kernel
theorem dX0_noteChild_36 : decode cX0_noteChild 36 = .ok (.dup, 1) := by decide +kernel
theorem dX0_noteChild_37 : decode cX0_noteChild 37 = .ok (.getfield 42, 3) := by decide +kernel
theorem dX0_noteChild_40 : decode cX0_noteChild 40 = .ok (.iconst 1, 1) := by decide +kernel
theorem dX0_noteChild_41 : decode cX0_noteChild 41 = .ok (.iadd, 1) := by decide +kernel
theorem dX0_noteChild_42 : decode cX0_noteChild 42 = .ok (.putfield 42, 3) := by decide +kernel
theorem dX0_noteChild_45 : decode cX0_noteChild 45 = .ok (.return_, 1) := by decide +kernel
theorem dX0_keysRise_0 : decode cX0_keysRise 0 = .ok (.iconst 1, 1) := by decide +kernel
theorem dX0_keysRise_1 : decode cX0_keysRise 1 = .ok (.istore_n 1, 1) := by decide +kernel
theorem dX0_keysRise_2 : decode cX0_keysRise 2 = .ok (.iload_n 1, 1) := by decide +kernel
theorem dX0_keysRise_3 : decode cX0_keysRise 3 = .ok (.aload_n 0, 1) := by decide +kernel
theorem dX0_keysRise_4 : decode cX0_keysRise 4 = .ok (.getfield 39, 3) := by decide +kernel
theorem dX0_keysRise_7 : decode cX0_keysRise 7 = .ok (.if_icmp .ge 28, 3) := by decide +kernel
theorem dX0_keysRise_10 : decode cX0_keysRise 10 = .ok (.aload_n 0, 1) := by decide +kernel
theorem dX0_keysRise_11 : decode cX0_keysRise 11 = .ok (.getfield 19, 3) := by decide +kernel
theorem dX0_keysRise_14 : decode cX0_keysRise 14 = .ok (.iload_n 1, 1) := by decide +kernel
theorem dX0_keysRise_15 : decode cX0_keysRise 15 = .ok (.iaload, 1) := by decide +kernel
theorem dX0_keysRise_16 : decode cX0_keysRise 16 = .ok (.aload_n 0, 1) := by decide +kernel
theorem dX0_keysRise_17 : decode cX0_keysRise 17 = .ok (.getfield 19, 3) := by decide +kernel
theorem dX0_keysRise_20 : decode cX0_keysRise 20 = .ok (.iload_n 1, 1) := by decide +kernel
theorem dX0_keysRise_21 : decode cX0_keysRise 21 = .ok (.iconst 1, 1) := by decide +kernel
theorem dX0_keysRise_22 : decode cX0_keysRise 22 = .ok (.isub, 1) := by decide +kernel
theorem dX0_keysRise_23 : decode cX0_keysRise 23 = .ok (.iaload, 1) := by decide +kernel
theorem dX0_keysRise_24 : decode cX0_keysRise 24 = .ok (.if_icmp .gt 5, 3) := by decide +kernel
theorem dX0_keysRise_27 : decode cX0_keysRise 27 = .ok (.iconst 0, 1) := by decide +kernel
theorem dX0_keysRise_28 : decode cX0_keysRise 28 = .ok (.ireturn, 1) := by decide +kernel
theorem dX0_keysRise_29 : decode cX0_keysRise 29 = .ok (.iinc 1 1, 3) := by decide +kernel
theorem dX0_keysRise_32 : decode cX0_keysRise 32 = .ok (.goto (-30), 3) := by decide +kernel
theorem dX0_keysRise_35 : decode cX0_keysRise 35 = .ok (.iconst 1, 1) := by decide +kernel
theorem dX0_keysRise_36 : decode cX0_keysRise 36 = .ok (.ireturn, 1) := by decide +kernel
theorem dX0_leftOutFits_0 : decode cX0_leftOutFits 0 = .ok (.iconst 0, 1) := by decide +kernel
theorem dX0_leftOutFits_1 : decode cX0_leftOutFits 1 = .ok (.istore_n 2, 1) := by decide +kernel
theorem dX0_leftOutFits_2 : decode cX0_leftOutFits 2 = .ok (.iload_n 2, 1) := by decide +kernel
theorem dX0_leftOutFits_3 : decode cX0_leftOutFits 3 = .ok (.aload_n 0, 1) := by decide +kernel
theorem dX0_leftOutFits_4 : decode cX0_leftOutFits 4 = .ok (.getfield 39, 3) := by decide +kernel
theorem dX0_leftOutFits_7 : decode cX0_leftOutFits 7 = .ok (.if_icmp .ge 39, 3) := by decide +kernel
theorem dX0_leftOutFits_10 : decode cX0_leftOutFits 10 = .ok (.aload_n 0, 1) := by decide +kernel
theorem dX0_leftOutFits_11 : decode cX0_leftOutFits 11 = .ok (.getfield 26, 3) := by decide +kernel
theorem dX0_leftOutFits_14 : decode cX0_leftOutFits 14 = .ok (.iload_n 2, 1) := by decide +kernel
theorem dX0_leftOutFits_15 : decode cX0_leftOutFits 15 = .ok (.baload, 1) := by decide +kernel
theorem dX0_leftOutFits_16 : decode cX0_leftOutFits 16 = .ok (.ifCond .eq 24, 3) := by decide +kernel
theorem dX0_leftOutFits_19 : decode cX0_leftOutFits 19 = .ok (.aload_n 1, 1) := by decide +kernel
theorem dX0_leftOutFits_20 : decode cX0_leftOutFits 20 = .ok (.aload_n 0, 1) := by decide +kernel
theorem dX0_leftOutFits_21 : decode cX0_leftOutFits 21 = .ok (.iload_n 2, 1) := by decide +kernel
theorem dX0_leftOutFits_22 : decode cX0_leftOutFits 22 = .ok (.invokevirtual 79, 3) := by decide +kernel
theorem dX0_leftOutFits_25 : decode cX0_leftOutFits 25 = .ok (.aload_n 0, 1) := by decide +kernel
theorem dX0_leftOutFits_26 : decode cX0_leftOutFits 26 = .ok (.iload_n 2, 1) := by decide +kernel
theorem dX0_leftOutFits_27 : decode cX0_leftOutFits 27 = .ok (.iconst 1, 1) := by decide +kernel
theorem dX0_leftOutFits_28 : decode cX0_leftOutFits 28 = .ok (.iadd, 1) := by decide +kernel
theorem dX0_leftOutFits_29 : decode cX0_leftOutFits 29 = .ok (.invokevirtual 83, 3) := by decide +kernel
theorem dX0_leftOutFits_32 : decode cX0_leftOutFits 32 = .ok (.invokevirtual 139, 3) := by decide +kernel
theorem dX0_leftOutFits_35 : decode cX0_leftOutFits 35 = .ok (.ifCond .ne 5, 3) := by decide +kernel
theorem dX0_leftOutFits_38 : decode cX0_leftOutFits 38 = .ok (.iconst 0, 1) := by decide +kernel
theorem dX0_leftOutFits_39 : decode cX0_leftOutFits 39 = .ok (.ireturn, 1) := by decide +kernel
theorem dX0_leftOutFits_40 : decode cX0_leftOutFits 40 = .ok (.iinc 2 1, 3) := by decide +kernel
theorem dX0_leftOutFits_43 : decode cX0_leftOutFits 43 = .ok (.goto (-41), 3) := by decide +kernel
theorem dX0_leftOutFits_46 : decode cX0_leftOutFits 46 = .ok (.iconst 1, 1) := by decide +kernel
theorem dX0_leftOutFits_47 : decode cX0_leftOutFits 47 = .ok (.ireturn, 1) := by decide +kernel
theorem dX0_shownFits_0 : decode cX0_shownFits 0 = .ok (.iconst 0, 1) := by decide +kernel
theorem dX0_shownFits_1 : decode cX0_shownFits 1 = .ok (.istore_n 2, 1) := by decide +kernel
theorem dX0_shownFits_2 : decode cX0_shownFits 2 = .ok (.iload_n 2, 1) := by decide +kernel
theorem dX0_shownFits_3 : decode cX0_shownFits 3 = .ok (.aload_n 0, 1) := by decide +kernel
theorem dX0_shownFits_4 : decode cX0_shownFits 4 = .ok (.getfield 42, 3) := by decide +kernel
theorem dX0_shownFits_7 : decode cX0_shownFits 7 = .ok (.if_icmp .ge 38, 3) := by decide +kernel
theorem dX0_shownFits_10 : decode cX0_shownFits 10 = .ok (.aload_n 1, 1) := by decide +kernel
theorem dX0_shownFits_11 : decode cX0_shownFits 11 = .ok (.aload_n 0, 1) := by decide +kernel
theorem dX0_shownFits_12 : decode cX0_shownFits 12 = .ok (.aload_n 0, 1) := by decide +kernel
theorem dX0_shownFits_13 : decode cX0_shownFits 13 = .ok (.getfield 30, 3) := by decide +kernel
theorem dX0_shownFits_16 : decode cX0_shownFits 16 = .ok (.iload_n 2, 1) := by decide +kernel
theorem dX0_shownFits_17 : decode cX0_shownFits 17 = .ok (.iaload, 1) := by decide +kernel
theorem dX0_shownFits_18 : decode cX0_shownFits 18 = .ok (.invokevirtual 79, 3) := by decide +kernel
theorem dX0_shownFits_21 : decode cX0_shownFits 21 = .ok (.aload_n 0, 1) := by decide +kernel
theorem dX0_shownFits_22 : decode cX0_shownFits 22 = .ok (.aload_n 0, 1) := by decide +kernel
theorem dX0_shownFits_23 : decode cX0_shownFits 23 = .ok (.getfield 33, 3) := by decide +kernel
theorem dX0_shownFits_26 : decode cX0_shownFits 26 = .ok (.iload_n 2, 1) := by decide +kernel
theorem dX0_shownFits_27 : decode cX0_shownFits 27 = .ok (.iaload, 1) := by decide +kernel
theorem dX0_shownFits_28 : decode cX0_shownFits 28 = .ok (.invokevirtual 83, 3) := by decide +kernel
theorem dX0_shownFits_31 : decode cX0_shownFits 31 = .ok (.invokevirtual 139, 3) := by decide +kernel
theorem dX0_shownFits_34 : decode cX0_shownFits 34 = .ok (.ifCond .eq 5, 3) := by decide +kernel
theorem dX0_shownFits_37 : decode cX0_shownFits 37 = .ok (.iconst 0, 1) := by decide +kernel
theorem dX0_shownFits_38 : decode cX0_shownFits 38 = .ok (.ireturn, 1) := by decide +kernel
theorem dX0_shownFits_39 : decode cX0_shownFits 39 = .ok (.iinc 2 1, 3) := by decide +kernel
theorem dX0_shownFits_42 : decode cX0_shownFits 42 = .ok (.goto (-40), 3) := by decide +kernel
theorem dX0_shownFits_45 : decode cX0_shownFits 45 = .ok (.iconst 1, 1) := by decide +kernel
theorem dX0_shownFits_46 : decode cX0_shownFits 46 = .ok (.ireturn, 1) := by decide +kernel
theorem dX0_spanFrom_0 : decode cX0_spanFrom 0 = .ok (.iload_n 1, 1) := by decide +kernel
theorem dX0_spanFrom_1 : decode cX0_spanFrom 1 = .ok (.ifCond .le 13, 3) := by decide +kernel
theorem dX0_spanFrom_4 : decode cX0_spanFrom 4 = .ok (.aload_n 0, 1) := by decide +kernel
theorem dX0_spanFrom_5 : decode cX0_spanFrom 5 = .ok (.getfield 19, 3) := by decide +kernel
theorem dX0_spanFrom_8 : decode cX0_spanFrom 8 = .ok (.iload_n 1, 1) := by decide +kernel
theorem dX0_spanFrom_9 : decode cX0_spanFrom 9 = .ok (.iaload, 1) := by decide +kernel
theorem dX0_spanFrom_10 : decode cX0_spanFrom 10 = .ok (.i2l, 1) := by decide +kernel
theorem dX0_spanFrom_11 : decode cX0_spanFrom 11 = .ok (.goto 6, 3) := by decide +kernel
theorem dX0_spanFrom_14 : decode cX0_spanFrom 14 = .ok (.ldc2_w 142, 3) := by decide +kernel
theorem dX0_spanFrom_17 : decode cX0_spanFrom 17 = .ok (.lreturn, 1) := by decide +kernel
theorem dX0_spanEnd_0 : decode cX0_spanEnd 0 = .ok (.iload_n 1, 1) := by decide +kernel
theorem dX0_spanEnd_1 : decode cX0_spanEnd 1 = .ok (.aload_n 0, 1) := by decide +kernel
theorem dX0_spanEnd_2 : decode cX0_spanEnd 2 = .ok (.getfield 39, 3) := by decide +kernel
theorem dX0_spanEnd_5 : decode cX0_spanEnd 5 = .ok (.if_icmp .ge 13, 3) := by decide +kernel
theorem dX0_spanEnd_8 : decode cX0_spanEnd 8 = .ok (.aload_n 0, 1) := by decide +kernel
theorem dX0_spanEnd_9 : decode cX0_spanEnd 9 = .ok (.getfield 19, 3) := by decide +kernel
theorem dX0_spanEnd_12 : decode cX0_spanEnd 12 = .ok (.iload_n 1, 1) := by decide +kernel
theorem dX0_spanEnd_13 : decode cX0_spanEnd 13 = .ok (.iaload, 1) := by decide +kernel
theorem dX0_spanEnd_14 : decode cX0_spanEnd 14 = .ok (.i2l, 1) := by decide +kernel
theorem dX0_spanEnd_15 : decode cX0_spanEnd 15 = .ok (.goto 6, 3) := by decide +kernel
theorem dX0_spanEnd_18 : decode cX0_spanEnd 18 = .ok (.ldc2_w 144, 3) := by decide +kernel
theorem dX0_spanEnd_21 : decode cX0_spanEnd 21 = .ok (.lreturn, 1) := by decide +kernel
theorem dX1_init_0 : decode cX1_init 0 = .ok (.aload_n 0, 1) := by decide +kernel
theorem dX1_init_1 : decode cX1_init 1 = .ok (.invokespecial 3, 3) := by decide +kernel
theorem dX1_init_4 : decode cX1_init 4 = .ok (.aload_n 0, 1) := by decide +kernel
theorem dX1_init_5 : decode cX1_init 5 = .ok (.iload_n 1, 1) := by decide +kernel
theorem dX1_init_6 : decode cX1_init 6 = .ok (.putfield 9, 3) := by decide +kernel
theorem dX1_init_9 : decode cX1_init 9 = .ok (.aload_n 0, 1) := by decide +kernel
theorem dX1_init_10 : decode cX1_init 10 = .ok (.iload_n 2, 1) := by decide +kernel
theorem dX1_init_11 : decode cX1_init 11 = .ok (.newarray .int, 2) := by decide +kernel
theorem dX1_init_13 : decode cX1_init 13 = .ok (.putfield 15, 3) := by decide +kernel
theorem dX1_init_16 : decode cX1_init 16 = .ok (.aload_n 0, 1) := by decide +kernel
theorem dX1_init_17 : decode cX1_init 17 = .ok (.iload_n 2, 1) := by decide +kernel
theorem dX1_init_18 : decode cX1_init 18 = .ok (.newarray .int, 2) := by decide +kernel
theorem dX1_init_20 : decode cX1_init 20 = .ok (.putfield 19, 3) := by decide +kernel
theorem dX1_init_23 : decode cX1_init 23 = .ok (.aload_n 0, 1) := by decide +kernel
theorem dX1_init_24 : decode cX1_init 24 = .ok (.iload_n 2, 1) := by decide +kernel
theorem dX1_init_25 : decode cX1_init 25 = .ok (.anewarray 10, 3) := by decide +kernel
theorem dX1_init_28 : decode cX1_init 28 = .ok (.putfield 22, 3) := by decide +kernel
theorem dX1_init_31 : decode cX1_init 31 = .ok (.return_, 1) := by decide +kernel
theorem dX1_slotOf_0 : decode cX1_slotOf 0 = .ok (.iconst 0, 1) := by decide +kernel
theorem dX1_slotOf_1 : decode cX1_slotOf 1 = .ok (.istore_n 2, 1) := by decide +kernel
theorem dX1_slotOf_2 : decode cX1_slotOf 2 = .ok (.iload_n 2, 1) := by decide +kernel
theorem dX1_slotOf_3 : decode cX1_slotOf 3 = .ok (.aload_n 0, 1) := by decide +kernel
theorem dX1_slotOf_4 : decode cX1_slotOf 4 = .ok (.getfield 26, 3) := by decide +kernel
theorem dX1_slotOf_7 : decode cX1_slotOf 7 = .ok (.if_icmp .ge 19, 3) := by decide +kernel
theorem dX1_slotOf_10 : decode cX1_slotOf 10 = .ok (.aload_n 0, 1) := by decide +kernel
theorem dX1_slotOf_11 : decode cX1_slotOf 11 = .ok (.getfield 15, 3) := by decide +kernel
theorem dX1_slotOf_14 : decode cX1_slotOf 14 = .ok (.iload_n 2, 1) := by decide +kernel
theorem dX1_slotOf_15 : decode cX1_slotOf 15 = .ok (.iaload, 1) := by decide +kernel
theorem dX1_slotOf_16 : decode cX1_slotOf 16 = .ok (.iload_n 1, 1) := by decide +kernel
theorem dX1_slotOf_17 : decode cX1_slotOf 17 = .ok (.if_icmp .ge 9, 3) := by decide +kernel
theorem dX1_slotOf_20 : decode cX1_slotOf 20 = .ok (.iinc 2 1, 3) := by decide +kernel
theorem dX1_slotOf_23 : decode cX1_slotOf 23 = .ok (.goto (-21), 3) := by decide +kernel
theorem dX1_slotOf_26 : decode cX1_slotOf 26 = .ok (.iload_n 2, 1) := by decide +kernel
theorem dX1_slotOf_27 : decode cX1_slotOf 27 = .ok (.ireturn, 1) := by decide +kernel
theorem dX1_hasAt_0 : decode cX1_hasAt 0 = .ok (.iload_n 1, 1) := by decide +kernel
theorem dX1_hasAt_1 : decode cX1_hasAt 1 = .ok (.aload_n 0, 1) := by decide +kernel
theorem dX1_hasAt_2 : decode cX1_hasAt 2 = .ok (.getfield 26, 3) := by decide +kernel
theorem dX1_hasAt_5 : decode cX1_hasAt 5 = .ok (.if_icmp .ge 17, 3) := by decide +kernel
theorem dX1_hasAt_8 : decode cX1_hasAt 8 = .ok (.aload_n 0, 1) := by decide +kernel
theorem dX1_hasAt_9 : decode cX1_hasAt 9 = .ok (.getfield 15, 3) := by decide +kernel
theorem dX1_hasAt_12 : decode cX1_hasAt 12 = .ok (.iload_n 1, 1) := by decide +kernel
theorem dX1_hasAt_13 : decode cX1_hasAt 13 = .ok (.iaload, 1) := by decide +kernel
theorem dX1_hasAt_14 : decode cX1_hasAt 14 = .ok (.iload_n 2, 1) := by decide +kernel
theorem dX1_hasAt_15 : decode cX1_hasAt 15 = .ok (.if_icmp .ne 7, 3) := by decide +kernel
theorem dX1_hasAt_18 : decode cX1_hasAt 18 = .ok (.iconst 1, 1) := by decide +kernel
theorem dX1_hasAt_19 : decode cX1_hasAt 19 = .ok (.goto 4, 3) := by decide +kernel
theorem dX1_hasAt_22 : decode cX1_hasAt 22 = .ok (.iconst 0, 1) := by decide +kernel
theorem dX1_hasAt_23 : decode cX1_hasAt 23 = .ok (.ireturn, 1) := by decide +kernel
theorem dX1_childFor_0 : decode cX1_childFor 0 = .ok (.iconst 0, 1) := by decide +kernel
theorem dX1_childFor_1 : decode cX1_childFor 1 = .ok (.istore_n 2, 1) := by decide +kernel
theorem dX1_childFor_2 : decode cX1_childFor 2 = .ok (.iload_n 2, 1) := by decide +kernel
theorem dX1_childFor_3 : decode cX1_childFor 3 = .ok (.iconst 1, 1) := by decide +kernel
theorem dX1_childFor_4 : decode cX1_childFor 4 = .ok (.iadd, 1) := by decide +kernel
theorem dX1_childFor_5 : decode cX1_childFor 5 = .ok (.aload_n 0, 1) := by decide +kernel
theorem dX1_childFor_6 : decode cX1_childFor 6 = .ok (.getfield 26, 3) := by decide +kernel
theorem dX1_childFor_9 : decode cX1_childFor 9 = .ok (.if_icmp .ge 24, 3) := by decide +kernel
theorem dX1_childFor_12 : decode cX1_childFor 12 = .ok (.aload_n 0, 1) := by decide +kernel
theorem dX1_childFor_13 : decode cX1_childFor 13 = .ok (.getfield 22, 3) := by decide +kernel
theorem dX1_childFor_16 : decode cX1_childFor 16 = .ok (.iload_n 2, 1) := by decide +kernel
theorem dX1_childFor_17 : decode cX1_childFor 17 = .ok (.iconst 1, 1) := by decide +kernel
theorem dX1_childFor_18 : decode cX1_childFor 18 = .ok (.iadd, 1) := by decide +kernel
theorem dX1_childFor_19 : decode cX1_childFor 19 = .ok (.aaload, 1) := by decide +kernel
theorem dX1_childFor_20 : decode cX1_childFor 20 = .ok (.getfield 30, 3) := by decide +kernel
theorem dX1_childFor_23 : decode cX1_childFor 23 = .ok (.iload_n 1, 1) := by decide +kernel
theorem dX1_childFor_24 : decode cX1_childFor 24 = .ok (.if_icmp .gt 9, 3) := by decide +kernel
theorem dX1_childFor_27 : decode cX1_childFor 27 = .ok (.iinc 2 1, 3) := by decide +kernel
theorem dX1_childFor_30 : decode cX1_childFor 30 = .ok (.goto (-28), 3) := by decide +kernel
theorem dX1_childFor_33 : decode cX1_childFor 33 = .ok (.iload_n 2, 1) := by decide +kernel
theorem dX1_childFor_34 : decode cX1_childFor 34 = .ok (.ireturn, 1) := by decide +kernel
theorem dX1_copySlot_0 : decode cX1_copySlot 0 = .ok (.aload_n 2, 1) := by decide +kernel
theorem dX1_copySlot_1 : decode cX1_copySlot 1 = .ok (.getfield 15, 3) := by decide +kernel
theorem dX1_copySlot_4 : decode cX1_copySlot 4 = .ok (.iload_n 3, 1) := by decide +kernel
theorem dX1_copySlot_5 : decode cX1_copySlot 5 = .ok (.aload_n 0, 1) := by decide +kernel
theorem dX1_copySlot_6 : decode cX1_copySlot 6 = .ok (.getfield 15, 3) := by decide +kernel
theorem dX1_copySlot_9 : decode cX1_copySlot 9 = .ok (.iload_n 1, 1) := by decide +kernel
theorem dX1_copySlot_10 : decode cX1_copySlot 10 = .ok (.iaload, 1) := by decide +kernel
theorem dX1_copySlot_11 : decode cX1_copySlot 11 = .ok (.iastore, 1) := by decide +kernel
theorem dX1_copySlot_12 : decode cX1_copySlot 12 = .ok (.aload_n 2, 1) := by decide +kernel
theorem dX1_copySlot_13 : decode cX1_copySlot 13 = .ok (.getfield 19, 3) := by decide +kernel
theorem dX1_copySlot_16 : decode cX1_copySlot 16 = .ok (.iload_n 3, 1) := by decide +kernel
theorem dX1_copySlot_17 : decode cX1_copySlot 17 = .ok (.aload_n 0, 1) := by decide +kernel
theorem dX1_copySlot_18 : decode cX1_copySlot 18 = .ok (.getfield 19, 3) := by decide +kernel
theorem dX1_copySlot_21 : decode cX1_copySlot 21 = .ok (.iload_n 1, 1) := by decide +kernel
theorem dX1_copySlot_22 : decode cX1_copySlot 22 = .ok (.iaload, 1) := by decide +kernel
theorem dX1_copySlot_23 : decode cX1_copySlot 23 = .ok (.iastore, 1) := by decide +kernel
theorem dX1_copySlot_24 : decode cX1_copySlot 24 = .ok (.aload_n 2, 1) := by decide +kernel
theorem dX1_copySlot_25 : decode cX1_copySlot 25 = .ok (.getfield 22, 3) := by decide +kernel
theorem dX1_copySlot_28 : decode cX1_copySlot 28 = .ok (.iload_n 3, 1) := by decide +kernel
theorem dX1_copySlot_29 : decode cX1_copySlot 29 = .ok (.aload_n 0, 1) := by decide +kernel
theorem dX1_copySlot_30 : decode cX1_copySlot 30 = .ok (.getfield 22, 3) := by decide +kernel
theorem dX1_copySlot_33 : decode cX1_copySlot 33 = .ok (.iload_n 1, 1) := by decide +kernel
theorem dX1_copySlot_34 : decode cX1_copySlot 34 = .ok (.aaload, 1) := by decide +kernel
theorem dX1_copySlot_35 : decode cX1_copySlot 35 = .ok (.aastore, 1) := by decide +kernel
theorem dX1_copySlot_36 : decode cX1_copySlot 36 = .ok (.return_, 1) := by decide +kernel
theorem dX1_openSlot_0 : decode cX1_openSlot 0 = .ok (.aload_n 0, 1) := by decide +kernel
theorem dX1_openSlot_1 : decode cX1_openSlot 1 = .ok (.getfield 26, 3) := by decide +kernel
theorem dX1_openSlot_4 : decode cX1_openSlot 4 = .ok (.istore_n 2, 1) := by decide +kernel
theorem dX1_openSlot_5 : decode cX1_openSlot 5 = .ok (.iload_n 2, 1) := by decide +kernel
theorem dX1_openSlot_6 : decode cX1_openSlot 6 = .ok (.iload_n 1, 1) := by decide +kernel
theorem dX1_openSlot_7 : decode cX1_openSlot 7 = .ok (.if_icmp .le 18, 3) := by decide +kernel
theorem dX1_openSlot_10 : decode cX1_openSlot 10 = .ok (.aload_n 0, 1) := by decide +kernel
theorem dX1_openSlot_11 : decode cX1_openSlot 11 = .ok (.iload_n 2, 1) := by decide +kernel
theorem dX1_openSlot_12 : decode cX1_openSlot 12 = .ok (.iconst 1, 1) := by decide +kernel
theorem dX1_openSlot_13 : decode cX1_openSlot 13 = .ok (.isub, 1) := by decide +kernel
theorem dX1_openSlot_14 : decode cX1_openSlot 14 = .ok (.aload_n 0, 1) := by decide +kernel
theorem dX1_openSlot_15 : decode cX1_openSlot 15 = .ok (.iload_n 2, 1) := by decide +kernel
theorem dX1_openSlot_16 : decode cX1_openSlot 16 = .ok (.invokevirtual 33, 3) := by decide +kernel
theorem dX1_openSlot_19 : decode cX1_openSlot 19 = .ok (.iinc 2 (-1), 3) := by decide +kernel
theorem dX1_openSlot_22 : decode cX1_openSlot 22 = .ok (.goto (-17), 3) := by decide +kernel
theorem dX1_openSlot_25 : decode cX1_openSlot 25 = .ok (.aload_n 0, 1) := by decide +kernel
theorem dX1_openSlot_26 : decode cX1_openSlot 26 = .ok (.dup, 1) := by decide +kernel
theorem dX1_openSlot_27 : decode cX1_openSlot 27 = .ok (.getfield 26, 3) := by decide +kernel
theorem dX1_openSlot_30 : decode cX1_openSlot 30 = .ok (.iconst 1, 1) := by decide +kernel
theorem dX1_openSlot_31 : decode cX1_openSlot 31 = .ok (.iadd, 1) := by decide +kernel
theorem dX1_openSlot_32 : decode cX1_openSlot 32 = .ok (.putfield 26, 3) := by decide +kernel
theorem dX1_openSlot_35 : decode cX1_openSlot 35 = .ok (.return_, 1) := by decide +kernel
theorem dX1_closeSlot_0 : decode cX1_closeSlot 0 = .ok (.iload_n 1, 1) := by decide +kernel
theorem dX1_closeSlot_1 : decode cX1_closeSlot 1 = .ok (.iconst 1, 1) := by decide +kernel
theorem dX1_closeSlot_2 : decode cX1_closeSlot 2 = .ok (.iadd, 1) := by decide +kernel
theorem dX1_closeSlot_3 : decode cX1_closeSlot 3 = .ok (.istore_n 2, 1) := by decide +kernel
theorem dX1_closeSlot_4 : decode cX1_closeSlot 4 = .ok (.iload_n 2, 1) := by decide +kernel
theorem dX1_closeSlot_5 : decode cX1_closeSlot 5 = .ok (.aload_n 0, 1) := by decide +kernel
theorem dX1_closeSlot_6 : decode cX1_closeSlot 6 = .ok (.getfield 26, 3) := by decide +kernel
theorem dX1_closeSlot_9 : decode cX1_closeSlot 9 = .ok (.if_icmp .ge 18, 3) := by decide +kernel
theorem dX1_closeSlot_12 : decode cX1_closeSlot 12 = .ok (.aload_n 0, 1) := by decide +kernel
theorem dX1_closeSlot_13 : decode cX1_closeSlot 13 = .ok (.iload_n 2, 1) := by decide +kernel
theorem dX1_closeSlot_14 : decode cX1_closeSlot 14 = .ok (.aload_n 0, 1) := by decide +kernel
theorem dX1_closeSlot_15 : decode cX1_closeSlot 15 = .ok (.iload_n 2, 1) := by decide +kernel
theorem dX1_closeSlot_16 : decode cX1_closeSlot 16 = .ok (.iconst 1, 1) := by decide +kernel
theorem dX1_closeSlot_17 : decode cX1_closeSlot 17 = .ok (.isub, 1) := by decide +kernel
theorem dX1_closeSlot_18 : decode cX1_closeSlot 18 = .ok (.invokevirtual 33, 3) := by decide +kernel
theorem dX1_closeSlot_21 : decode cX1_closeSlot 21 = .ok (.iinc 2 1, 3) := by decide +kernel
theorem dX1_closeSlot_24 : decode cX1_closeSlot 24 = .ok (.goto (-20), 3) := by decide +kernel
theorem dX1_closeSlot_27 : decode cX1_closeSlot 27 = .ok (.aload_n 0, 1) := by decide +kernel
theorem dX1_closeSlot_28 : decode cX1_closeSlot 28 = .ok (.dup, 1) := by decide +kernel
theorem dX1_closeSlot_29 : decode cX1_closeSlot 29 = .ok (.getfield 26, 3) := by decide +kernel
theorem dX1_closeSlot_32 : decode cX1_closeSlot 32 = .ok (.iconst 1, 1) := by decide +kernel
theorem dX1_closeSlot_33 : decode cX1_closeSlot 33 = .ok (.isub, 1) := by decide +kernel
theorem dX1_closeSlot_34 : decode cX1_closeSlot 34 = .ok (.putfield 26, 3) := by decide +kernel
theorem dX1_closeSlot_37 : decode cX1_closeSlot 37 = .ok (.return_, 1) := by decide +kernel
theorem dX1_moveSlot_0 : decode cX1_moveSlot 0 = .ok (.aload_n 2, 1) := by decide +kernel
theorem dX1_moveSlot_1 : decode cX1_moveSlot 1 = .ok (.iload_n 3, 1) := by decide +kernel
theorem dX1_moveSlot_2 : decode cX1_moveSlot 2 = .ok (.invokevirtual 37, 3) := by decide +kernel
theorem dX1_moveSlot_5 : decode cX1_moveSlot 5 = .ok (.aload_n 0, 1) := by decide +kernel
theorem dX1_moveSlot_6 : decode cX1_moveSlot 6 = .ok (.iload_n 1, 1) := by decide +kernel
theorem dX1_moveSlot_7 : decode cX1_moveSlot 7 = .ok (.aload_n 2, 1) := by decide +kernel
theorem dX1_moveSlot_8 : decode cX1_moveSlot 8 = .ok (.iload_n 3, 1) := by decide +kernel
theorem dX1_moveSlot_9 : decode cX1_moveSlot 9 = .ok (.invokevirtual 33, 3) := by decide +kernel
theorem dX1_moveSlot_12 : decode cX1_moveSlot 12 = .ok (.aload_n 0, 1) := by decide +kernel
theorem dX1_moveSlot_13 : decode cX1_moveSlot 13 = .ok (.iload_n 1, 1) := by decide +kernel
theorem dX1_moveSlot_14 : decode cX1_moveSlot 14 = .ok (.invokevirtual 41, 3) := by decide +kernel
theorem dX1_moveSlot_17 : decode cX1_moveSlot 17 = .ok (.return_, 1) := by decide +kernel
theorem dX1_moveTail_0 : decode cX1_moveTail 0 = .ok (.iload_n 1, 1) := by decide +kernel
theorem dX1_moveTail_1 : decode cX1_moveTail 1 = .ok (.istore_n 3, 1) := by decide +kernel
theorem dX1_moveTail_2 : decode cX1_moveTail 2 = .ok (.iload_n 3, 1) := by decide +kernel
theorem dX1_moveTail_3 : decode cX1_moveTail 3 = .ok (.aload_n 0, 1) := by decide +kernel
theorem dX1_moveTail_4 : decode cX1_moveTail 4 = .ok (.getfield 26, 3) := by decide +kernel
theorem dX1_moveTail_7 : decode cX1_moveTail 7 = .ok (.if_icmp .ge 29, 3) := by decide +kernel
theorem dX1_moveTail_10 : decode cX1_moveTail 10 = .ok (.aload_n 0, 1) := by decide +kernel
theorem dX1_moveTail_11 : decode cX1_moveTail 11 = .ok (.iload_n 3, 1) := by decide +kernel
theorem dX1_moveTail_12 : decode cX1_moveTail 12 = .ok (.aload_n 2, 1) := by decide +kernel
theorem dX1_moveTail_13 : decode cX1_moveTail 13 = .ok (.aload_n 2, 1) := by decide +kernel
theorem dX1_moveTail_14 : decode cX1_moveTail 14 = .ok (.getfield 26, 3) := by decide +kernel
theorem dX1_moveTail_17 : decode cX1_moveTail 17 = .ok (.invokevirtual 33, 3) := by decide +kernel
theorem dX1_moveTail_20 : decode cX1_moveTail 20 = .ok (.aload_n 2, 1) := by decide +kernel
theorem dX1_moveTail_21 : decode cX1_moveTail 21 = .ok (.dup, 1) := by decide +kernel
theorem dX1_moveTail_22 : decode cX1_moveTail 22 = .ok (.getfield 26, 3) := by decide +kernel
theorem dX1_moveTail_25 : decode cX1_moveTail 25 = .ok (.iconst 1, 1) := by decide +kernel
theorem dX1_moveTail_26 : decode cX1_moveTail 26 = .ok (.iadd, 1) := by decide +kernel
theorem dX1_moveTail_27 : decode cX1_moveTail 27 = .ok (.putfield 26, 3) := by decide +kernel
theorem dX1_moveTail_30 : decode cX1_moveTail 30 = .ok (.iinc 3 1, 3) := by decide +kernel
theorem dX1_moveTail_33 : decode cX1_moveTail 33 = .ok (.goto (-31), 3) := by decide +kernel
theorem dX1_moveTail_36 : decode cX1_moveTail 36 = .ok (.aload_n 0, 1) := by decide +kernel
theorem dX1_moveTail_37 : decode cX1_moveTail 37 = .ok (.iload_n 1, 1) := by decide +kernel
theorem dX1_moveTail_38 : decode cX1_moveTail 38 = .ok (.putfield 26, 3) := by decide +kernel
theorem dX1_moveTail_41 : decode cX1_moveTail 41 = .ok (.return_, 1) := by decide +kernel
theorem dX1_renew_0 : decode cX1_renew 0 = .ok (.iconst 0, 1) := by decide +kernel
theorem dX1_renew_1 : decode cX1_renew 1 = .ok (.istore_n 1, 1) := by decide +kernel
theorem dX1_renew_2 : decode cX1_renew 2 = .ok (.iconst 1, 1) := by decide +kernel
theorem dX1_renew_3 : decode cX1_renew 3 = .ok (.aload_n 0, 1) := by decide +kernel
theorem dX1_renew_4 : decode cX1_renew 4 = .ok (.getfield 9, 3) := by decide +kernel
theorem dX1_renew_7 : decode cX1_renew 7 = .ok (.ifCond .eq 7, 3) := by decide +kernel
theorem dX1_renew_10 : decode cX1_renew 10 = .ok (.iconst 1, 1) := by decide +kernel
theorem dX1_renew_11 : decode cX1_renew 11 = .ok (.goto 4, 3) := by decide +kernel
theorem dX1_renew_14 : decode cX1_renew 14 = .ok (.iconst 2, 1) := by decide +kernel
theorem dX1_renew_15 : decode cX1_renew 15 = .ok (.invokestatic 44, 3) := by decide +kernel
theorem dX1_renew_18 : decode cX1_renew 18 = .ok (.aload_n 0, 1) := by decide +kernel
theorem dX1_renew_19 : decode cX1_renew 19 = .ok (.getfield 26, 3) := by decide +kernel
theorem dX1_renew_22 : decode cX1_renew 22 = .ok (.invokestatic 44, 3) := by decide +kernel
theorem dX1_renew_25 : decode cX1_renew 25 = .ok (.istore_n 2, 1) := by decide +kernel
theorem dX1_renew_26 : decode cX1_renew 26 = .ok (.iconst 0, 1) := by decide +kernel
theorem dX1_renew_27 : decode cX1_renew 27 = .ok (.istore_n 3, 1) := by decide +kernel
theorem dX1_renew_28 : decode cX1_renew 28 = .ok (.iload_n 3, 1) := by decide +kernel
theorem dX1_renew_29 : decode cX1_renew 29 = .ok (.aload_n 0, 1) := by decide +kernel
theorem dX1_renew_30 : decode cX1_renew 30 = .ok (.getfield 26, 3) := by decide +kernel
theorem dX1_renew_33 : decode cX1_renew 33 = .ok (.if_icmp .ge 84, 3) := by decide +kernel
theorem dX1_renew_36 : decode cX1_renew 36 = .ok (.aload_n 0, 1) := by decide +kernel
theorem dX1_renew_37 : decode cX1_renew 37 = .ok (.getfield 9, 3) := by decide +kernel
theorem dX1_renew_40 : decode cX1_renew 40 = .ok (.ifCond .eq 29, 3) := by decide +kernel
theorem dX1_renew_43 : decode cX1_renew 43 = .ok (.iload_n 2, 1) := by decide +kernel
theorem dX1_renew_44 : decode cX1_renew 44 = .ok (.aload_n 0, 1) := by decide +kernel
theorem dX1_renew_45 : decode cX1_renew 45 = .ok (.getfield 15, 3) := by decide +kernel
theorem dX1_renew_48 : decode cX1_renew 48 = .ok (.iload_n 3, 1) := by decide +kernel
theorem dX1_renew_49 : decode cX1_renew 49 = .ok (.iaload, 1) := by decide +kernel
theorem dX1_renew_50 : decode cX1_renew 50 = .ok (.invokestatic 44, 3) := by decide +kernel
theorem dX1_renew_53 : decode cX1_renew 53 = .ok (.aload_n 0, 1) := by decide +kernel
theorem dX1_renew_54 : decode cX1_renew 54 = .ok (.getfield 19, 3) := by decide +kernel
theorem dX1_renew_57 : decode cX1_renew 57 = .ok (.iload_n 3, 1) := by decide +kernel
theorem dX1_renew_58 : decode cX1_renew 58 = .ok (.iaload, 1) := by decide +kernel
theorem dX1_renew_59 : decode cX1_renew 59 = .ok (.invokestatic 44, 3) := by decide +kernel
theorem dX1_renew_62 : decode cX1_renew 62 = .ok (.istore_n 2, 1) := by decide +kernel
theorem dX1_renew_63 : decode cX1_renew 63 = .ok (.iinc 1 1, 3) := by decide +kernel
theorem dX1_renew_66 : decode cX1_renew 66 = .ok (.goto 45, 3) := by decide +kernel
theorem dX1_renew_69 : decode cX1_renew 69 = .ok (.aload_n 0, 1) := by decide +kernel
theorem dX1_renew_70 : decode cX1_renew 70 = .ok (.getfield 22, 3) := by decide +kernel
theorem dX1_renew_73 : decode cX1_renew 73 = .ok (.iload_n 3, 1) := by decide +kernel
theorem dX1_renew_74 : decode cX1_renew 74 = .ok (.aaload, 1) := by decide +kernel
theorem dX1_renew_75 : decode cX1_renew 75 = .ok (.astore 4, 2) := by decide +kernel
theorem dX1_renew_77 : decode cX1_renew 77 = .ok (.iload_n 2, 1) := by decide +kernel
theorem dX1_renew_78 : decode cX1_renew 78 = .ok (.aload 4, 2) := by decide +kernel
theorem dX1_renew_80 : decode cX1_renew 80 = .ok (.getfield 30, 3) := by decide +kernel
theorem dX1_renew_83 : decode cX1_renew 83 = .ok (.invokestatic 44, 3) := by decide +kernel
theorem dX1_renew_86 : decode cX1_renew 86 = .ok (.aload 4, 2) := by decide +kernel
theorem dX1_renew_88 : decode cX1_renew 88 = .ok (.getfield 48, 3) := by decide +kernel
theorem dX1_renew_91 : decode cX1_renew 91 = .ok (.invokestatic 44, 3) := by decide +kernel
theorem dX1_renew_94 : decode cX1_renew 94 = .ok (.aload 4, 2) := by decide +kernel
theorem dX1_renew_96 : decode cX1_renew 96 = .ok (.getfield 51, 3) := by decide +kernel
theorem dX1_renew_99 : decode cX1_renew 99 = .ok (.invokestatic 44, 3) := by decide +kernel
theorem dX1_renew_102 : decode cX1_renew 102 = .ok (.istore_n 2, 1) := by decide +kernel
theorem dX1_renew_103 : decode cX1_renew 103 = .ok (.iload_n 1, 1) := by decide +kernel
theorem dX1_renew_104 : decode cX1_renew 104 = .ok (.aload 4, 2) := by decide +kernel
theorem dX1_renew_106 : decode cX1_renew 106 = .ok (.getfield 51, 3) := by decide +kernel
theorem dX1_renew_109 : decode cX1_renew 109 = .ok (.iadd, 1) := by decide +kernel
theorem dX1_renew_110 : decode cX1_renew 110 = .ok (.istore_n 1, 1) := by decide +kernel
theorem dX1_renew_111 : decode cX1_renew 111 = .ok (.iinc 3 1, 3) := by decide +kernel
theorem dX1_renew_114 : decode cX1_renew 114 = .ok (.goto (-86), 3) := by decide +kernel
theorem dX1_renew_117 : decode cX1_renew 117 = .ok (.aload_n 0, 1) := by decide +kernel
theorem dX1_renew_118 : decode cX1_renew 118 = .ok (.iload_n 2, 1) := by decide +kernel
theorem dX1_renew_119 : decode cX1_renew 119 = .ok (.putfield 48, 3) := by decide +kernel
theorem dX1_renew_122 : decode cX1_renew 122 = .ok (.aload_n 0, 1) := by decide +kernel
theorem dX1_renew_123 : decode cX1_renew 123 = .ok (.iload_n 1, 1) := by decide +kernel
theorem dX1_renew_124 : decode cX1_renew 124 = .ok (.putfield 51, 3) := by decide +kernel
theorem dX1_renew_127 : decode cX1_renew 127 = .ok (.aload_n 0, 1) := by decide +kernel
theorem dX1_renew_128 : decode cX1_renew 128 = .ok (.getfield 26, 3) := by decide +kernel
theorem dX1_renew_131 : decode cX1_renew 131 = .ok (.ifCond .le 32, 3) := by decide +kernel
theorem dX1_renew_134 : decode cX1_renew 134 = .ok (.aload_n 0, 1) := by decide +kernel
theorem dX1_renew_135 : decode cX1_renew 135 = .ok (.aload_n 0, 1) := by decide +kernel
theorem dX1_renew_136 : decode cX1_renew 136 = .ok (.getfield 9, 3) := by decide +kernel
theorem dX1_renew_139 : decode cX1_renew 139 = .ok (.ifCond .eq 12, 3) := by decide +kernel
theorem dX1_renew_142 : decode cX1_renew 142 = .ok (.aload_n 0, 1) := by decide +kernel
theorem dX1_renew_143 : decode cX1_renew 143 = .ok (.getfield 15, 3) := by decide +kernel
theorem dX1_renew_146 : decode cX1_renew 146 = .ok (.iconst 0, 1) := by decide +kernel
theorem dX1_renew_147 : decode cX1_renew 147 = .ok (.iaload, 1) := by decide +kernel
theorem dX1_renew_148 : decode cX1_renew 148 = .ok (.goto 12, 3) := by decide +kernel
theorem dX1_renew_151 : decode cX1_renew 151 = .ok (.aload_n 0, 1) := by decide +kernel
theorem dX1_renew_152 : decode cX1_renew 152 = .ok (.getfield 22, 3) := by decide +kernel
theorem dX1_renew_155 : decode cX1_renew 155 = .ok (.iconst 0, 1) := by decide +kernel
theorem dX1_renew_156 : decode cX1_renew 156 = .ok (.aaload, 1) := by decide +kernel
theorem dX1_renew_157 : decode cX1_renew 157 = .ok (.getfield 30, 3) := by decide +kernel
theorem dX1_renew_160 : decode cX1_renew 160 = .ok (.putfield 30, 3) := by decide +kernel
theorem dX1_renew_163 : decode cX1_renew 163 = .ok (.return_, 1) := by decide +kernel
theorem dX2_init_0 : decode cX2_init 0 = .ok (.aload_n 0, 1) := by decide +kernel
theorem dX2_init_1 : decode cX2_init 1 = .ok (.invokespecial 3, 3) := by decide +kernel
theorem dX2_init_4 : decode cX2_init 4 = .ok (.aload_n 0, 1) := by decide +kernel
theorem dX2_init_5 : decode cX2_init 5 = .ok (.sipush 240, 3) := by decide +kernel
theorem dX2_init_8 : decode cX2_init 8 = .ok (.newarray .int, 2) := by decide +kernel
theorem dX2_init_10 : decode cX2_init 10 = .ok (.putfield 9, 3) := by decide +kernel
theorem dX2_init_13 : decode cX2_init 13 = .ok (.return_, 1) := by decide +kernel
theorem dX2_has_0 : decode cX2_has 0 = .ok (.iload_n 1, 1) := by decide +kernel
theorem dX2_has_1 : decode cX2_has 1 = .ok (.ifCond .lt 15, 3) := by decide +kernel
theorem dX2_has_4 : decode cX2_has 4 = .ok (.iload_n 1, 1) := by decide +kernel
theorem dX2_has_5 : decode cX2_has 5 = .ok (.aload_n 0, 1) := by decide +kernel
theorem dX2_has_6 : decode cX2_has 6 = .ok (.getfield 15, 3) := by decide +kernel
theorem dX2_has_9 : decode cX2_has 9 = .ok (.if_icmp .ge 7, 3) := by decide +kernel
theorem dX2_has_12 : decode cX2_has 12 = .ok (.iconst 1, 1) := by decide +kernel
theorem dX2_has_13 : decode cX2_has 13 = .ok (.goto 4, 3) := by decide +kernel
theorem dX2_has_16 : decode cX2_has 16 = .ok (.iconst 0, 1) := by decide +kernel
theorem dX2_has_17 : decode cX2_has 17 = .ok (.ireturn, 1) := by decide +kernel
theorem dX2_append_0 : decode cX2_append 0 = .ok (.aload_n 0, 1) := by decide +kernel
theorem dX2_append_1 : decode cX2_append 1 = .ok (.getfield 15, 3) := by decide +kernel
theorem dX2_append_4 : decode cX2_append 4 = .ok (.aload_n 0, 1) := by decide +kernel
theorem dX2_append_5 : decode cX2_append 5 = .ok (.getfield 9, 3) := by decide +kernel
theorem dX2_append_8 : decode cX2_append 8 = .ok (.arraylength, 1) := by decide +kernel
theorem dX2_append_9 : decode cX2_append 9 = .ok (.if_icmp .ge 23, 3) := by decide +kernel
theorem dX2_append_12 : decode cX2_append 12 = .ok (.aload_n 0, 1) := by decide +kernel
theorem dX2_append_13 : decode cX2_append 13 = .ok (.getfield 9, 3) := by decide +kernel
theorem dX2_append_16 : decode cX2_append 16 = .ok (.aload_n 0, 1) := by decide +kernel
theorem dX2_append_17 : decode cX2_append 17 = .ok (.getfield 15, 3) := by decide +kernel
theorem dX2_append_20 : decode cX2_append 20 = .ok (.iload_n 1, 1) := by decide +kernel
theorem dX2_append_21 : decode cX2_append 21 = .ok (.iastore, 1) := by decide +kernel
theorem dX2_append_22 : decode cX2_append 22 = .ok (.aload_n 0, 1) := by decide +kernel
theorem dX2_append_23 : decode cX2_append 23 = .ok (.dup, 1) := by decide +kernel
theorem dX2_append_24 : decode cX2_append 24 = .ok (.getfield 15, 3) := by decide +kernel
theorem dX2_append_27 : decode cX2_append 27 = .ok (.iconst 1, 1) := by decide +kernel
theorem dX2_append_28 : decode cX2_append 28 = .ok (.iadd, 1) := by decide +kernel
theorem dX2_append_29 : decode cX2_append 29 = .ok (.putfield 15, 3) := by decide +kernel
theorem dX2_append_32 : decode cX2_append 32 = .ok (.return_, 1) := by decide +kernel
theorem dX3_init_0 : decode cX3_init 0 = .ok (.aload_n 0, 1) := by decide +kernel
theorem dX3_init_1 : decode cX3_init 1 = .ok (.invokespecial 3, 3) := by decide +kernel
theorem dX3_init_4 : decode cX3_init 4 = .ok (.aload_n 0, 1) := by decide +kernel
theorem dX3_init_5 : decode cX3_init 5 = .ok (.aload_n 1, 1) := by decide +kernel
theorem dX3_init_6 : decode cX3_init 6 = .ok (.putfield 9, 3) := by decide +kernel
theorem dX3_init_9 : decode cX3_init 9 = .ok (.aload_n 0, 1) := by decide +kernel
theorem dX3_init_10 : decode cX3_init 10 = .ok (.aload_n 2, 1) := by decide +kernel
theorem dX3_init_11 : decode cX3_init 11 = .ok (.putfield 15, 3) := by decide +kernel
theorem dX3_init_14 : decode cX3_init 14 = .ok (.return_, 1) := by decide +kernel
theorem dX3_write_0 : decode cX3_write 0 = .ok (.aload_n 1, 1) := by decide +kernel
theorem dX3_write_1 : decode cX3_write 1 = .ok (.getfield 19, 3) := by decide +kernel
theorem dX3_write_4 : decode cX3_write 4 = .ok (.ifCond .eq 11, 3) := by decide +kernel
theorem dX3_write_7 : decode cX3_write 7 = .ok (.aload_n 0, 1) := by decide +kernel
theorem dX3_write_8 : decode cX3_write 8 = .ok (.aload_n 1, 1) := by decide +kernel
theorem dX3_write_9 : decode cX3_write 9 = .ok (.invokevirtual 25, 3) := by decide +kernel
theorem dX3_write_12 : decode cX3_write 12 = .ok (.goto 20, 3) := by decide +kernel
theorem dX3_write_15 : decode cX3_write 15 = .ok (.iload 6, 2) := by decide +kernel
theorem dX3_write_17 : decode cX3_write 17 = .ok (.bipush 6, 2) := by decide +kernel
theorem dX3_write_19 : decode cX3_write 19 = .ok (.if_icmp .ge 13, 3) := by decide +kernel
theorem dX3_write_22 : decode cX3_write 22 = .ok (.aload_n 0, 1) := by decide +kernel
theorem dX3_write_23 : decode cX3_write 23 = .ok (.aload_n 1, 1) := by decide +kernel
theorem dX3_write_24 : decode cX3_write 24 = .ok (.lload_n 2, 1) := by decide +kernel
theorem dX3_write_25 : decode cX3_write 25 = .ok (.lload 4, 2) := by decide +kernel
theorem dX3_write_27 : decode cX3_write 27 = .ok (.iload 6, 2) := by decide +kernel
theorem dX3_write_29 : decode cX3_write 29 = .ok (.invokevirtual 29, 3) := by decide +kernel
theorem dX3_write_32 : decode cX3_write 32 = .ok (.return_, 1) := by decide +kernel
theorem dX3_writeLeaf_0 : decode cX3_writeLeaf 0 = .ok (.aload_n 0, 1) := by decide +kernel
theorem dX3_writeLeaf_1 : decode cX3_writeLeaf 1 = .ok (.getfield 9, 3) := by decide +kernel
theorem dX3_writeLeaf_4 : decode cX3_writeLeaf 4 = .ok (.iconst 1, 1) := by decide +kernel
theorem dX3_writeLeaf_5 : decode cX3_writeLeaf 5 = .ok (.invokevirtual 33, 3) := by decide +kernel
theorem dX3_writeLeaf_8 : decode cX3_writeLeaf 8 = .ok (.aload_n 0, 1) := by decide +kernel
theorem dX3_writeLeaf_9 : decode cX3_writeLeaf 9 = .ok (.getfield 9, 3) := by decide +kernel
theorem dX3_writeLeaf_12 : decode cX3_writeLeaf 12 = .ok (.aload_n 1, 1) := by decide +kernel
theorem dX3_writeLeaf_13 : decode cX3_writeLeaf 13 = .ok (.getfield 39, 3) := by decide +kernel
theorem dX3_writeLeaf_16 : decode cX3_writeLeaf 16 = .ok (.invokevirtual 33, 3) := by decide +kernel
theorem dX3_writeLeaf_19 : decode cX3_writeLeaf 19 = .ok (.iconst 0, 1) := by decide +kernel
theorem dX3_writeLeaf_20 : decode cX3_writeLeaf 20 = .ok (.istore_n 2, 1) := by decide +kernel
theorem dX3_writeLeaf_21 : decode cX3_writeLeaf 21 = .ok (.iload_n 2, 1) := by decide +kernel
theorem dX3_writeLeaf_22 : decode cX3_writeLeaf 22 = .ok (.aload_n 1, 1) := by decide +kernel
theorem dX3_writeLeaf_23 : decode cX3_writeLeaf 23 = .ok (.getfield 39, 3) := by decide +kernel
theorem dX3_writeLeaf_26 : decode cX3_writeLeaf 26 = .ok (.if_icmp .ge 35, 3) := by decide +kernel
theorem dX3_writeLeaf_29 : decode cX3_writeLeaf 29 = .ok (.aload_n 0, 1) := by decide +kernel
theorem dX3_writeLeaf_30 : decode cX3_writeLeaf 30 = .ok (.getfield 9, 3) := by decide +kernel
theorem dX3_writeLeaf_33 : decode cX3_writeLeaf 33 = .ok (.aload_n 1, 1) := by decide +kernel
theorem dX3_writeLeaf_34 : decode cX3_writeLeaf 34 = .ok (.getfield 43, 3) := by decide +kernel
theorem dX3_writeLeaf_37 : decode cX3_writeLeaf 37 = .ok (.iload_n 2, 1) := by decide +kernel
theorem dX3_writeLeaf_38 : decode cX3_writeLeaf 38 = .ok (.iaload, 1) := by decide +kernel
theorem dX3_writeLeaf_39 : decode cX3_writeLeaf 39 = .ok (.invokevirtual 33, 3) := by decide +kernel
theorem dX3_writeLeaf_42 : decode cX3_writeLeaf 42 = .ok (.aload_n 0, 1) := by decide +kernel
theorem dX3_writeLeaf_43 : decode cX3_writeLeaf 43 = .ok (.getfield 9, 3) := by decide +kernel
theorem dX3_writeLeaf_46 : decode cX3_writeLeaf 46 = .ok (.aload_n 1, 1) := by decide +kernel
theorem dX3_writeLeaf_47 : decode cX3_writeLeaf 47 = .ok (.getfield 47, 3) := by decide +kernel
theorem dX3_writeLeaf_50 : decode cX3_writeLeaf 50 = .ok (.iload_n 2, 1) := by decide +kernel
theorem dX3_writeLeaf_51 : decode cX3_writeLeaf 51 = .ok (.iaload, 1) := by decide +kernel
theorem dX3_writeLeaf_52 : decode cX3_writeLeaf 52 = .ok (.invokevirtual 33, 3) := by decide +kernel
theorem dX3_writeLeaf_55 : decode cX3_writeLeaf 55 = .ok (.iinc 2 1, 3) := by decide +kernel
theorem dX3_writeLeaf_58 : decode cX3_writeLeaf 58 = .ok (.goto (-37), 3) := by decide +kernel
theorem dX3_writeLeaf_61 : decode cX3_writeLeaf 61 = .ok (.return_, 1) := by decide +kernel
theorem dX3_writeInner_0 : decode cX3_writeInner 0 = .ok (.aload_n 0, 1) := by decide +kernel
theorem dX3_writeInner_1 : decode cX3_writeInner 1 = .ok (.getfield 9, 3) := by decide +kernel
theorem dX3_writeInner_4 : decode cX3_writeInner 4 = .ok (.iconst 2, 1) := by decide +kernel
theorem dX3_writeInner_5 : decode cX3_writeInner 5 = .ok (.invokevirtual 33, 3) := by decide +kernel
theorem dX3_writeInner_8 : decode cX3_writeInner 8 = .ok (.aload_n 0, 1) := by decide +kernel
theorem dX3_writeInner_9 : decode cX3_writeInner 9 = .ok (.getfield 9, 3) := by decide +kernel
theorem dX3_writeInner_12 : decode cX3_writeInner 12 = .ok (.aload_n 1, 1) := by decide +kernel
theorem dX3_writeInner_13 : decode cX3_writeInner 13 = .ok (.getfield 39, 3) := by decide +kernel
theorem dX3_writeInner_16 : decode cX3_writeInner 16 = .ok (.invokevirtual 33, 3) := by decide +kernel
theorem dX3_writeInner_19 : decode cX3_writeInner 19 = .ok (.iconst 0, 1) := by decide +kernel
theorem dX3_writeInner_20 : decode cX3_writeInner 20 = .ok (.istore 7, 2) := by decide +kernel
theorem dX3_writeInner_22 : decode cX3_writeInner 22 = .ok (.iload 7, 2) := by decide +kernel
theorem dX3_writeInner_24 : decode cX3_writeInner 24 = .ok (.aload_n 1, 1) := by decide +kernel
theorem dX3_writeInner_25 : decode cX3_writeInner 25 = .ok (.getfield 39, 3) := by decide +kernel
theorem dX3_writeInner_28 : decode cX3_writeInner 28 = .ok (.if_icmp .ge 103, 3) := by decide +kernel
theorem dX3_writeInner_31 : decode cX3_writeInner 31 = .ok (.aload_n 1, 1) := by decide +kernel
theorem dX3_writeInner_32 : decode cX3_writeInner 32 = .ok (.getfield 50, 3) := by decide +kernel
theorem dX3_writeInner_35 : decode cX3_writeInner 35 = .ok (.iload 7, 2) := by decide +kernel
theorem dX3_writeInner_37 : decode cX3_writeInner 37 = .ok (.aaload, 1) := by decide +kernel
theorem dX3_writeInner_38 : decode cX3_writeInner 38 = .ok (.astore 8, 2) := by decide +kernel
theorem dX3_writeInner_40 : decode cX3_writeInner 40 = .ok (.iload 7, 2) := by decide +kernel
theorem dX3_writeInner_42 : decode cX3_writeInner 42 = .ok (.ifCond .ne 7, 3) := by decide +kernel
theorem dX3_writeInner_45 : decode cX3_writeInner 45 = .ok (.lload_n 2, 1) := by decide +kernel
theorem dX3_writeInner_46 : decode cX3_writeInner 46 = .ok (.goto 9, 3) := by decide +kernel
theorem dX3_writeInner_49 : decode cX3_writeInner 49 = .ok (.aload 8, 2) := by decide +kernel
theorem dX3_writeInner_51 : decode cX3_writeInner 51 = .ok (.getfield 54, 3) := by decide +kernel
theorem dX3_writeInner_54 : decode cX3_writeInner 54 = .ok (.i2l, 1) := by decide +kernel
theorem dX3_writeInner_55 : decode cX3_writeInner 55 = .ok (.lstore 9, 2) := by decide +kernel
theorem dX3_writeInner_57 : decode cX3_writeInner 57 = .ok (.iload 7, 2) := by decide +kernel
theorem dX3_writeInner_59 : decode cX3_writeInner 59 = .ok (.iconst 1, 1) := by decide +kernel
theorem dX3_writeInner_60 : decode cX3_writeInner 60 = .ok (.iadd, 1) := by decide +kernel
theorem dX3_writeInner_61 : decode cX3_writeInner 61 = .ok (.aload_n 1, 1) := by decide +kernel
theorem dX3_writeInner_62 : decode cX3_writeInner 62 = .ok (.getfield 39, 3) := by decide +kernel
theorem dX3_writeInner_65 : decode cX3_writeInner 65 = .ok (.if_icmp .ge 19, 3) := by decide +kernel
theorem dX3_writeInner_68 : decode cX3_writeInner 68 = .ok (.aload_n 1, 1) := by decide +kernel
theorem dX3_writeInner_69 : decode cX3_writeInner 69 = .ok (.getfield 50, 3) := by decide +kernel
theorem dX3_writeInner_72 : decode cX3_writeInner 72 = .ok (.iload 7, 2) := by decide +kernel
theorem dX3_writeInner_74 : decode cX3_writeInner 74 = .ok (.iconst 1, 1) := by decide +kernel
theorem dX3_writeInner_75 : decode cX3_writeInner 75 = .ok (.iadd, 1) := by decide +kernel
theorem dX3_writeInner_76 : decode cX3_writeInner 76 = .ok (.aaload, 1) := by decide +kernel
theorem dX3_writeInner_77 : decode cX3_writeInner 77 = .ok (.getfield 54, 3) := by decide +kernel
theorem dX3_writeInner_80 : decode cX3_writeInner 80 = .ok (.i2l, 1) := by decide +kernel
theorem dX3_writeInner_81 : decode cX3_writeInner 81 = .ok (.goto 5, 3) := by decide +kernel
theorem dX3_writeInner_84 : decode cX3_writeInner 84 = .ok (.lload 4, 2) := by decide +kernel
theorem dX3_writeInner_86 : decode cX3_writeInner 86 = .ok (.lstore 11, 2) := by decide +kernel
theorem dX3_writeInner_88 : decode cX3_writeInner 88 = .ok (.aload_n 0, 1) := by decide +kernel
theorem dX3_writeInner_89 : decode cX3_writeInner 89 = .ok (.getfield 15, 3) := by decide +kernel
theorem dX3_writeInner_92 : decode cX3_writeInner 92 = .ok (.lload 9, 2) := by decide +kernel
theorem dX3_writeInner_94 : decode cX3_writeInner 94 = .ok (.lload 11, 2) := by decide +kernel
theorem dX3_writeInner_96 : decode cX3_writeInner 96 = .ok (.invokevirtual 57, 3) := by decide +kernel
theorem dX3_writeInner_99 : decode cX3_writeInner 99 = .ok (.ifCond .eq 12, 3) := by decide +kernel
theorem dX3_writeInner_102 : decode cX3_writeInner 102 = .ok (.aload_n 0, 1) := by decide +kernel
theorem dX3_writeInner_103 : decode cX3_writeInner 103 = .ok (.aload 8, 2) := by decide +kernel
theorem dX3_writeInner_105 : decode cX3_writeInner 105 = .ok (.invokevirtual 63, 3) := by decide +kernel
theorem dX3_writeInner_108 : decode cX3_writeInner 108 = .ok (.goto 17, 3) := by decide +kernel
theorem dX3_writeInner_111 : decode cX3_writeInner 111 = .ok (.aload_n 0, 1) := by decide +kernel
theorem dX3_writeInner_112 : decode cX3_writeInner 112 = .ok (.aload 8, 2) := by decide +kernel
theorem dX3_writeInner_114 : decode cX3_writeInner 114 = .ok (.lload 9, 2) := by decide +kernel
theorem dX3_writeInner_116 : decode cX3_writeInner 116 = .ok (.lload 11, 2) := by decide +kernel
theorem dX3_writeInner_118 : decode cX3_writeInner 118 = .ok (.iload 6, 2) := by decide +kernel
theorem dX3_writeInner_120 : decode cX3_writeInner 120 = .ok (.iconst 1, 1) := by decide +kernel
theorem dX3_writeInner_121 : decode cX3_writeInner 121 = .ok (.iadd, 1) := by decide +kernel
theorem dX3_writeInner_122 : decode cX3_writeInner 122 = .ok (.invokevirtual 66, 3) := by decide +kernel
theorem dX3_writeInner_125 : decode cX3_writeInner 125 = .ok (.iinc 7 1, 3) := by decide +kernel
theorem dX3_writeInner_128 : decode cX3_writeInner 128 = .ok (.goto (-106), 3) := by decide +kernel
theorem dX3_writeInner_131 : decode cX3_writeInner 131 = .ok (.return_, 1) := by decide +kernel
theorem dX3_writeLeftOut_0 : decode cX3_writeLeftOut 0 = .ok (.aload_n 0, 1) := by decide +kernel
theorem dX3_writeLeftOut_1 : decode cX3_writeLeftOut 1 = .ok (.getfield 9, 3) := by decide +kernel
theorem dX3_writeLeftOut_4 : decode cX3_writeLeftOut 4 = .ok (.iconst 0, 1) := by decide +kernel
theorem dX3_writeLeftOut_5 : decode cX3_writeLeftOut 5 = .ok (.invokevirtual 33, 3) := by decide +kernel
theorem dX3_writeLeftOut_8 : decode cX3_writeLeftOut 8 = .ok (.aload_n 0, 1) := by decide +kernel
theorem dX3_writeLeftOut_9 : decode cX3_writeLeftOut 9 = .ok (.getfield 9, 3) := by decide +kernel
theorem dX3_writeLeftOut_12 : decode cX3_writeLeftOut 12 = .ok (.aload_n 1, 1) := by decide +kernel
theorem dX3_writeLeftOut_13 : decode cX3_writeLeftOut 13 = .ok (.getfield 54, 3) := by decide +kernel
theorem dX3_writeLeftOut_16 : decode cX3_writeLeftOut 16 = .ok (.invokevirtual 33, 3) := by decide +kernel
theorem dX3_writeLeftOut_19 : decode cX3_writeLeftOut 19 = .ok (.aload_n 0, 1) := by decide +kernel
theorem dX3_writeLeftOut_20 : decode cX3_writeLeftOut 20 = .ok (.getfield 9, 3) := by decide +kernel
theorem dX3_writeLeftOut_23 : decode cX3_writeLeftOut 23 = .ok (.aload_n 1, 1) := by decide +kernel
theorem dX3_writeLeftOut_24 : decode cX3_writeLeftOut 24 = .ok (.getfield 69, 3) := by decide +kernel
theorem dX3_writeLeftOut_27 : decode cX3_writeLeftOut 27 = .ok (.invokevirtual 33, 3) := by decide +kernel
theorem dX3_writeLeftOut_30 : decode cX3_writeLeftOut 30 = .ok (.aload_n 0, 1) := by decide +kernel
theorem dX3_writeLeftOut_31 : decode cX3_writeLeftOut 31 = .ok (.getfield 9, 3) := by decide +kernel
theorem dX3_writeLeftOut_34 : decode cX3_writeLeftOut 34 = .ok (.aload_n 1, 1) := by decide +kernel
theorem dX3_writeLeftOut_35 : decode cX3_writeLeftOut 35 = .ok (.getfield 72, 3) := by decide +kernel
theorem dX3_writeLeftOut_38 : decode cX3_writeLeftOut 38 = .ok (.invokevirtual 33, 3) := by decide +kernel
theorem dX3_writeLeftOut_41 : decode cX3_writeLeftOut 41 = .ok (.return_, 1) := by decide +kernel
theorem dX4_init_0 : decode cX4_init 0 = .ok (.aload_n 0, 1) := by decide +kernel
theorem dX4_init_1 : decode cX4_init 1 = .ok (.invokespecial 1, 3) := by decide +kernel
theorem dX4_init_4 : decode cX4_init 4 = .ok (.aload_n 0, 1) := by decide +kernel
theorem dX4_init_5 : decode cX4_init 5 = .ok (.iload_n 1, 1) := by decide +kernel
theorem dX4_init_6 : decode cX4_init 6 = .ok (.putfield 7, 3) := by decide +kernel
theorem dX4_init_9 : decode cX4_init 9 = .ok (.aload_n 0, 1) := by decide +kernel
theorem dX4_init_10 : decode cX4_init 10 = .ok (.iload_n 2, 1) := by decide +kernel
theorem dX4_init_11 : decode cX4_init 11 = .ok (.putfield 13, 3) := by decide +kernel
theorem dX4_init_14 : decode cX4_init 14 = .ok (.aload_n 0, 1) := by decide +kernel
theorem dX4_init_15 : decode cX4_init 15 = .ok (.iload_n 3, 1) := by decide +kernel
theorem dX4_init_16 : decode cX4_init 16 = .ok (.putfield 16, 3) := by decide +kernel
theorem dX4_init_19 : decode cX4_init 19 = .ok (.return_, 1) := by decide +kernel
theorem dX4_covers_0 : decode cX4_covers 0 = .ok (.iload_n 1, 1) := by decide +kernel
theorem dX4_covers_1 : decode cX4_covers 1 = .ok (.aload_n 0, 1) := by decide +kernel
theorem dX4_covers_2 : decode cX4_covers 2 = .ok (.getfield 7, 3) := by decide +kernel
theorem dX4_covers_5 : decode cX4_covers 5 = .ok (.if_icmp .lt 15, 3) := by decide +kernel
theorem dX4_covers_8 : decode cX4_covers 8 = .ok (.iload_n 1, 1) := by decide +kernel
theorem dX4_covers_9 : decode cX4_covers 9 = .ok (.aload_n 0, 1) := by decide +kernel
theorem dX4_covers_10 : decode cX4_covers 10 = .ok (.getfield 13, 3) := by decide +kernel
theorem dX4_covers_13 : decode cX4_covers 13 = .ok (.if_icmp .gt 7, 3) := by decide +kernel
theorem dX4_covers_16 : decode cX4_covers 16 = .ok (.iconst 1, 1) := by decide +kernel
theorem dX4_covers_17 : decode cX4_covers 17 = .ok (.goto 4, 3) := by decide +kernel
theorem dX4_covers_20 : decode cX4_covers 20 = .ok (.iconst 0, 1) := by decide +kernel
theorem dX4_covers_21 : decode cX4_covers 21 = .ok (.ireturn, 1) := by decide +kernel
theorem dX4_misses_0 : decode cX4_misses 0 = .ok (.lload_n 3, 1) := by decide +kernel
theorem dX4_misses_1 : decode cX4_misses 1 = .ok (.aload_n 0, 1) := by decide +kernel
theorem dX4_misses_2 : decode cX4_misses 2 = .ok (.getfield 7, 3) := by decide +kernel
theorem dX4_misses_5 : decode cX4_misses 5 = .ok (.i2l, 1) := by decide +kernel
theorem dX4_misses_6 : decode cX4_misses 6 = .ok (.lcmp, 1) := by decide +kernel
theorem dX4_misses_7 : decode cX4_misses 7 = .ok (.ifCond .le 13, 3) := by decide +kernel
theorem dX4_misses_10 : decode cX4_misses 10 = .ok (.lload_n 1, 1) := by decide +kernel
theorem dX4_misses_11 : decode cX4_misses 11 = .ok (.aload_n 0, 1) := by decide +kernel
theorem dX4_misses_12 : decode cX4_misses 12 = .ok (.getfield 13, 3) := by decide +kernel
theorem dX4_misses_15 : decode cX4_misses 15 = .ok (.i2l, 1) := by decide +kernel
theorem dX4_misses_16 : decode cX4_misses 16 = .ok (.lcmp, 1) := by decide +kernel
theorem dX4_misses_17 : decode cX4_misses 17 = .ok (.ifCond .le 7, 3) := by decide +kernel
theorem dX4_misses_20 : decode cX4_misses 20 = .ok (.iconst 1, 1) := by decide +kernel
theorem dX4_misses_21 : decode cX4_misses 21 = .ok (.goto 4, 3) := by decide +kernel
theorem dX4_misses_24 : decode cX4_misses 24 = .ok (.iconst 0, 1) := by decide +kernel
theorem dX4_misses_25 : decode cX4_misses 25 = .ok (.ireturn, 1) := by decide +kernel
theorem dX4_holds_0 : decode cX4_holds 0 = .ok (.lload_n 1, 1) := by decide +kernel
theorem dX4_holds_1 : decode cX4_holds 1 = .ok (.aload_n 0, 1) := by decide +kernel
theorem dX4_holds_2 : decode cX4_holds 2 = .ok (.getfield 7, 3) := by decide +kernel
theorem dX4_holds_5 : decode cX4_holds 5 = .ok (.i2l, 1) := by decide +kernel
theorem dX4_holds_6 : decode cX4_holds 6 = .ok (.lcmp, 1) := by decide +kernel
theorem dX4_holds_7 : decode cX4_holds 7 = .ok (.ifCond .lt 19, 3) := by decide +kernel
theorem dX4_holds_10 : decode cX4_holds 10 = .ok (.lload_n 3, 1) := by decide +kernel
theorem dX4_holds_11 : decode cX4_holds 11 = .ok (.lconst 1, 1) := by decide +kernel
theorem dX4_holds_12 : decode cX4_holds 12 = .ok (.lsub, 1) := by decide +kernel
theorem dX4_holds_13 : decode cX4_holds 13 = .ok (.aload_n 0, 1) := by decide +kernel
theorem dX4_holds_14 : decode cX4_holds 14 = .ok (.getfield 13, 3) := by decide +kernel
theorem dX4_holds_17 : decode cX4_holds 17 = .ok (.i2l, 1) := by decide +kernel
theorem dX4_holds_18 : decode cX4_holds 18 = .ok (.lcmp, 1) := by decide +kernel
theorem dX4_holds_19 : decode cX4_holds 19 = .ok (.ifCond .gt 7, 3) := by decide +kernel
theorem dX4_holds_22 : decode cX4_holds 22 = .ok (.iconst 1, 1) := by decide +kernel
theorem dX4_holds_23 : decode cX4_holds 23 = .ok (.goto 4, 3) := by decide +kernel
theorem dX4_holds_26 : decode cX4_holds 26 = .ok (.iconst 0, 1) := by decide +kernel
theorem dX4_holds_27 : decode cX4_holds 27 = .ok (.ireturn, 1) := by decide +kernel
theorem dX4_leavesOut_0 : decode cX4_leavesOut 0 = .ok (.aload_n 0, 1) := by decide +kernel
theorem dX4_leavesOut_1 : decode cX4_leavesOut 1 = .ok (.lload_n 1, 1) := by decide +kernel
theorem dX4_leavesOut_2 : decode cX4_leavesOut 2 = .ok (.lload_n 3, 1) := by decide +kernel
theorem dX4_leavesOut_3 : decode cX4_leavesOut 3 = .ok (.invokevirtual 20, 3) := by decide +kernel
theorem dX4_leavesOut_6 : decode cX4_leavesOut 6 = .ok (.ifCond .ne 19, 3) := by decide +kernel
theorem dX4_leavesOut_9 : decode cX4_leavesOut 9 = .ok (.aload_n 0, 1) := by decide +kernel
theorem dX4_leavesOut_10 : decode cX4_leavesOut 10 = .ok (.getfield 16, 3) := by decide +kernel
theorem dX4_leavesOut_13 : decode cX4_leavesOut 13 = .ok (.ifCond .eq 16, 3) := by decide +kernel
theorem dX4_leavesOut_16 : decode cX4_leavesOut 16 = .ok (.aload_n 0, 1) := by decide +kernel
theorem dX4_leavesOut_17 : decode cX4_leavesOut 17 = .ok (.lload_n 1, 1) := by decide +kernel
theorem dX4_leavesOut_18 : decode cX4_leavesOut 18 = .ok (.lload_n 3, 1) := by decide +kernel
theorem dX4_leavesOut_19 : decode cX4_leavesOut 19 = .ok (.invokevirtual 24, 3) := by decide +kernel
theorem dX4_leavesOut_22 : decode cX4_leavesOut 22 = .ok (.ifCond .eq 7, 3) := by decide +kernel
theorem dX4_leavesOut_25 : decode cX4_leavesOut 25 = .ok (.iconst 1, 1) := by decide +kernel
theorem dX4_leavesOut_26 : decode cX4_leavesOut 26 = .ok (.goto 4, 3) := by decide +kernel
theorem dX4_leavesOut_29 : decode cX4_leavesOut 29 = .ok (.iconst 0, 1) := by decide +kernel
theorem dX4_leavesOut_30 : decode cX4_leavesOut 30 = .ok (.ireturn, 1) := by decide +kernel
theorem dX5_init_0 : decode cX5_init 0 = .ok (.aload_n 0, 1) := by decide +kernel
theorem dX5_init_1 : decode cX5_init 1 = .ok (.invokespecial 3, 3) := by decide +kernel
theorem dX5_init_4 : decode cX5_init 4 = .ok (.aload_n 0, 1) := by decide +kernel
theorem dX5_init_5 : decode cX5_init 5 = .ok (.bipush 120, 2) := by decide +kernel
theorem dX5_init_7 : decode cX5_init 7 = .ok (.newarray .int, 2) := by decide +kernel
theorem dX5_init_9 : decode cX5_init 9 = .ok (.putfield 9, 3) := by decide +kernel
theorem dX5_init_12 : decode cX5_init 12 = .ok (.aload_n 0, 1) := by decide +kernel
theorem dX5_init_13 : decode cX5_init 13 = .ok (.bipush 120, 2) := by decide +kernel
theorem dX5_init_15 : decode cX5_init 15 = .ok (.newarray .int, 2) := by decide +kernel
theorem dX5_init_17 : decode cX5_init 17 = .ok (.putfield 15, 3) := by decide +kernel
theorem dX5_init_20 : decode cX5_init 20 = .ok (.return_, 1) := by decide +kernel
theorem dX5_append_0 : decode cX5_append 0 = .ok (.aload_n 0, 1) := by decide +kernel
theorem dX5_append_1 : decode cX5_append 1 = .ok (.getfield 18, 3) := by decide +kernel
theorem dX5_append_4 : decode cX5_append 4 = .ok (.aload_n 0, 1) := by decide +kernel
theorem dX5_append_5 : decode cX5_append 5 = .ok (.getfield 9, 3) := by decide +kernel
theorem dX5_append_8 : decode cX5_append 8 = .ok (.arraylength, 1) := by decide +kernel
theorem dX5_append_9 : decode cX5_append 9 = .ok (.if_icmp .ge 33, 3) := by decide +kernel
theorem dX5_append_12 : decode cX5_append 12 = .ok (.aload_n 0, 1) := by decide +kernel
theorem dX5_append_13 : decode cX5_append 13 = .ok (.getfield 9, 3) := by decide +kernel
theorem dX5_append_16 : decode cX5_append 16 = .ok (.aload_n 0, 1) := by decide +kernel
theorem dX5_append_17 : decode cX5_append 17 = .ok (.getfield 18, 3) := by decide +kernel
theorem dX5_append_20 : decode cX5_append 20 = .ok (.iload_n 1, 1) := by decide +kernel
theorem dX5_append_21 : decode cX5_append 21 = .ok (.iastore, 1) := by decide +kernel
theorem dX5_append_22 : decode cX5_append 22 = .ok (.aload_n 0, 1) := by decide +kernel
theorem dX5_append_23 : decode cX5_append 23 = .ok (.getfield 15, 3) := by decide +kernel
theorem dX5_append_26 : decode cX5_append 26 = .ok (.aload_n 0, 1) := by decide +kernel
theorem dX5_append_27 : decode cX5_append 27 = .ok (.getfield 18, 3) := by decide +kernel
theorem dX5_append_30 : decode cX5_append 30 = .ok (.iload_n 2, 1) := by decide +kernel
theorem dX5_append_31 : decode cX5_append 31 = .ok (.iastore, 1) := by decide +kernel
theorem dX5_append_32 : decode cX5_append 32 = .ok (.aload_n 0, 1) := by decide +kernel
theorem dX5_append_33 : decode cX5_append 33 = .ok (.dup, 1) := by decide +kernel
theorem dX5_append_34 : decode cX5_append 34 = .ok (.getfield 18, 3) := by decide +kernel
theorem dX5_append_37 : decode cX5_append 37 = .ok (.iconst 1, 1) := by decide +kernel
theorem dX5_append_38 : decode cX5_append 38 = .ok (.iadd, 1) := by decide +kernel
theorem dX5_append_39 : decode cX5_append 39 = .ok (.putfield 18, 3) := by decide +kernel
theorem dX5_append_42 : decode cX5_append 42 = .ok (.return_, 1) := by decide +kernel
theorem dX6_init_0 : decode cX6_init 0 = .ok (.aload_n 0, 1) := by decide +kernel
theorem dX6_init_1 : decode cX6_init 1 = .ok (.invokespecial 3, 3) := by decide +kernel
theorem dX6_init_4 : decode cX6_init 4 = .ok (.aload_n 0, 1) := by decide +kernel
theorem dX6_init_5 : decode cX6_init 5 = .ok (.iload_n 1, 1) := by decide +kernel
theorem dX6_init_6 : decode cX6_init 6 = .ok (.putfield 9, 3) := by decide +kernel
theorem dX6_init_9 : decode cX6_init 9 = .ok (.aload_n 0, 1) := by decide +kernel
theorem dX6_init_10 : decode cX6_init 10 = .ok (.iload_n 1, 1) := by decide +kernel
theorem dX6_init_11 : decode cX6_init 11 = .ok (.iconst 1, 1) := by decide +kernel
theorem dX6_init_12 : decode cX6_init 12 = .ok (.iadd, 1) := by decide +kernel
theorem dX6_init_13 : decode cX6_init 13 = .ok (.iconst 2, 1) := by decide +kernel
theorem dX6_init_14 : decode cX6_init 14 = .ok (.idiv, 1) := by decide +kernel
theorem dX6_init_15 : decode cX6_init 15 = .ok (.putfield 15, 3) := by decide +kernel
theorem dX6_init_18 : decode cX6_init 18 = .ok (.aload_n 0, 1) := by decide +kernel
theorem dX6_init_19 : decode cX6_init 19 = .ok (.bipush 6, 2) := by decide +kernel
theorem dX6_init_21 : decode cX6_init 21 = .ok (.anewarray 18, 3) := by decide +kernel
theorem dX6_init_24 : decode cX6_init 24 = .ok (.putfield 20, 3) := by decide +kernel
theorem dX6_init_27 : decode cX6_init 27 = .ok (.aload_n 0, 1) := by decide +kernel
theorem dX6_init_28 : decode cX6_init 28 = .ok (.bipush 6, 2) := by decide +kernel
theorem dX6_init_30 : decode cX6_init 30 = .ok (.newarray .int, 2) := by decide +kernel
theorem dX6_init_32 : decode cX6_init 32 = .ok (.putfield 24, 3) := by decide +kernel
theorem dX6_init_35 : decode cX6_init 35 = .ok (.aload_n 0, 1) := by decide +kernel
theorem dX6_init_36 : decode cX6_init 36 = .ok (.new 18, 3) := by decide +kernel
theorem dX6_init_39 : decode cX6_init 39 = .ok (.dup, 1) := by decide +kernel
theorem dX6_init_40 : decode cX6_init 40 = .ok (.iconst 1, 1) := by decide +kernel
theorem dX6_init_41 : decode cX6_init 41 = .ok (.iload_n 1, 1) := by decide +kernel
theorem dX6_init_42 : decode cX6_init 42 = .ok (.iconst 1, 1) := by decide +kernel
theorem dX6_init_43 : decode cX6_init 43 = .ok (.iadd, 1) := by decide +kernel
theorem dX6_init_44 : decode cX6_init 44 = .ok (.invokespecial 28, 3) := by decide +kernel
theorem dX6_init_47 : decode cX6_init 47 = .ok (.putfield 31, 3) := by decide +kernel
theorem dX6_init_50 : decode cX6_init 50 = .ok (.aload_n 0, 1) := by decide +kernel
theorem dX6_init_51 : decode cX6_init 51 = .ok (.getfield 31, 3) := by decide +kernel
theorem dX6_init_54 : decode cX6_init 54 = .ok (.invokevirtual 35, 3) := by decide +kernel
theorem dX6_init_57 : decode cX6_init 57 = .ok (.aload_n 0, 1) := by decide +kernel
theorem dX6_init_58 : decode cX6_init 58 = .ok (.iconst 1, 1) := by decide +kernel
theorem dX6_init_59 : decode cX6_init 59 = .ok (.putfield 38, 3) := by decide +kernel
theorem dX6_init_62 : decode cX6_init 62 = .ok (.return_, 1) := by decide +kernel
theorem dX6_valueOf_0 : decode cX6_valueOf 0 = .ok (.aload_n 0, 1) := by decide +kernel
theorem dX6_valueOf_1 : decode cX6_valueOf 1 = .ok (.iload_n 1, 1) := by decide +kernel
theorem dX6_valueOf_2 : decode cX6_valueOf 2 = .ok (.invokevirtual 41, 3) := by decide +kernel
theorem dX6_valueOf_5 : decode cX6_valueOf 5 = .ok (.astore_n 2, 1) := by decide +kernel
theorem dX6_valueOf_6 : decode cX6_valueOf 6 = .ok (.aload_n 2, 1) := by decide +kernel
theorem dX6_valueOf_7 : decode cX6_valueOf 7 = .ok (.iload_n 1, 1) := by decide +kernel
theorem dX6_valueOf_8 : decode cX6_valueOf 8 = .ok (.invokevirtual 45, 3) := by decide +kernel
theorem dX6_valueOf_11 : decode cX6_valueOf 11 = .ok (.istore_n 3, 1) := by decide +kernel
theorem dX6_valueOf_12 : decode cX6_valueOf 12 = .ok (.aload_n 2, 1) := by decide +kernel
theorem dX6_valueOf_13 : decode cX6_valueOf 13 = .ok (.iload_n 3, 1) := by decide +kernel
theorem dX6_valueOf_14 : decode cX6_valueOf 14 = .ok (.iload_n 1, 1) := by decide +kernel
theorem dX6_valueOf_15 : decode cX6_valueOf 15 = .ok (.invokevirtual 49, 3) := by decide +kernel
theorem dX6_valueOf_18 : decode cX6_valueOf 18 = .ok (.ifCond .eq 12, 3) := by decide +kernel
theorem dX6_valueOf_21 : decode cX6_valueOf 21 = .ok (.aload_n 2, 1) := by decide +kernel
theorem dX6_valueOf_22 : decode cX6_valueOf 22 = .ok (.getfield 53, 3) := by decide +kernel
theorem dX6_valueOf_25 : decode cX6_valueOf 25 = .ok (.iload_n 3, 1) := by decide +kernel
theorem dX6_valueOf_26 : decode cX6_valueOf 26 = .ok (.iaload, 1) := by decide +kernel
theorem dX6_valueOf_27 : decode cX6_valueOf 27 = .ok (.goto 4, 3) := by decide +kernel
theorem dX6_valueOf_30 : decode cX6_valueOf 30 = .ok (.iconst 0, 1) := by decide +kernel
theorem dX6_valueOf_31 : decode cX6_valueOf 31 = .ok (.ireturn, 1) := by decide +kernel
theorem dX6_store_0 : decode cX6_store 0 = .ok (.aload_n 0, 1) := by decide +kernel
theorem dX6_store_1 : decode cX6_store 1 = .ok (.iload_n 1, 1) := by decide +kernel
theorem dX6_store_2 : decode cX6_store 2 = .ok (.invokevirtual 41, 3) := by decide +kernel
theorem dX6_store_5 : decode cX6_store 5 = .ok (.astore_n 3, 1) := by decide +kernel
theorem dX6_store_6 : decode cX6_store 6 = .ok (.aload_n 3, 1) := by decide +kernel
theorem dX6_store_7 : decode cX6_store 7 = .ok (.iload_n 1, 1) := by decide +kernel
theorem dX6_store_8 : decode cX6_store 8 = .ok (.invokevirtual 45, 3) := by decide +kernel
theorem dX6_store_11 : decode cX6_store 11 = .ok (.istore 4, 2) := by decide +kernel
theorem dX6_store_13 : decode cX6_store 13 = .ok (.aload_n 3, 1) := by decide +kernel
theorem dX6_store_14 : decode cX6_store 14 = .ok (.iload 4, 2) := by decide +kernel
theorem dX6_store_16 : decode cX6_store 16 = .ok (.iload_n 1, 1) := by decide +kernel
theorem dX6_store_17 : decode cX6_store 17 = .ok (.invokevirtual 49, 3) := by decide +kernel
theorem dX6_store_20 : decode cX6_store 20 = .ok (.istore 5, 2) := by decide +kernel
theorem dX6_store_22 : decode cX6_store 22 = .ok (.iload 5, 2) := by decide +kernel
theorem dX6_store_24 : decode cX6_store 24 = .ok (.ifCond .ne 17, 3) := by decide +kernel
theorem dX6_store_27 : decode cX6_store 27 = .ok (.aload_n 0, 1) := by decide +kernel
theorem dX6_store_28 : decode cX6_store 28 = .ok (.getfield 31, 3) := by decide +kernel
theorem dX6_store_31 : decode cX6_store 31 = .ok (.getfield 56, 3) := by decide +kernel
theorem dX6_store_34 : decode cX6_store 34 = .ok (.bipush 60, 2) := by decide +kernel
theorem dX6_store_36 : decode cX6_store 36 = .ok (.if_icmp .lt 5, 3) := by decide +kernel
theorem dX6_store_39 : decode cX6_store 39 = .ok (.iconst 0, 1) := by decide +kernel
theorem dX6_store_40 : decode cX6_store 40 = .ok (.ireturn, 1) := by decide +kernel
theorem dX6_store_41 : decode cX6_store 41 = .ok (.iload 5, 2) := by decide +kernel
theorem dX6_store_43 : decode cX6_store 43 = .ok (.ifCond .ne 17, 3) := by decide +kernel
theorem dX6_store_46 : decode cX6_store 46 = .ok (.aload_n 3, 1) := by decide +kernel
theorem dX6_store_47 : decode cX6_store 47 = .ok (.iload 4, 2) := by decide +kernel
theorem dX6_store_49 : decode cX6_store 49 = .ok (.invokevirtual 59, 3) := by decide +kernel
theorem dX6_store_52 : decode cX6_store 52 = .ok (.aload_n 3, 1) := by decide +kernel
theorem dX6_store_53 : decode cX6_store 53 = .ok (.getfield 63, 3) := by decide +kernel
theorem dX6_store_56 : decode cX6_store 56 = .ok (.iload 4, 2) := by decide +kernel
theorem dX6_store_58 : decode cX6_store 58 = .ok (.iload_n 1, 1) := by decide +kernel
theorem dX6_store_59 : decode cX6_store 59 = .ok (.iastore, 1) := by decide +kernel
theorem dX6_store_60 : decode cX6_store 60 = .ok (.aload_n 3, 1) := by decide +kernel
theorem dX6_store_61 : decode cX6_store 61 = .ok (.getfield 53, 3) := by decide +kernel
theorem dX6_store_64 : decode cX6_store 64 = .ok (.iload 4, 2) := by decide +kernel
theorem dX6_store_66 : decode cX6_store 66 = .ok (.iload_n 2, 1) := by decide +kernel
theorem dX6_store_67 : decode cX6_store 67 = .ok (.iastore, 1) := by decide +kernel
theorem dX6_store_68 : decode cX6_store 68 = .ok (.aload_n 0, 1) := by decide +kernel
theorem dX6_store_69 : decode cX6_store 69 = .ok (.invokevirtual 66, 3) := by decide +kernel
theorem dX6_store_72 : decode cX6_store 72 = .ok (.iload 5, 2) := by decide +kernel
theorem dX6_store_74 : decode cX6_store 74 = .ok (.ifCond .eq 7, 3) := by decide +kernel
theorem dX6_store_77 : decode cX6_store 77 = .ok (.iconst 2, 1) := by decide +kernel
theorem dX6_store_78 : decode cX6_store 78 = .ok (.goto 4, 3) := by decide +kernel
theorem dX6_store_81 : decode cX6_store 81 = .ok (.iconst 1, 1) := by decide +kernel
theorem dX6_store_82 : decode cX6_store 82 = .ok (.ireturn, 1) := by decide +kernel
theorem dX6_drop_0 : decode cX6_drop 0 = .ok (.aload_n 0, 1) := by decide +kernel
theorem dX6_drop_1 : decode cX6_drop 1 = .ok (.iload_n 1, 1) := by decide +kernel
theorem dX6_drop_2 : decode cX6_drop 2 = .ok (.invokevirtual 41, 3) := by decide +kernel
theorem dX6_drop_5 : decode cX6_drop 5 = .ok (.astore_n 2, 1) := by decide +kernel
theorem dX6_drop_6 : decode cX6_drop 6 = .ok (.aload_n 2, 1) := by decide +kernel
theorem dX6_drop_7 : decode cX6_drop 7 = .ok (.iload_n 1, 1) := by decide +kernel
theorem dX6_drop_8 : decode cX6_drop 8 = .ok (.invokevirtual 45, 3) := by decide +kernel
theorem dX6_drop_11 : decode cX6_drop 11 = .ok (.istore_n 3, 1) := by decide +kernel
theorem dX6_drop_12 : decode cX6_drop 12 = .ok (.aload_n 2, 1) := by decide +kernel
theorem dX6_drop_13 : decode cX6_drop 13 = .ok (.iload_n 3, 1) := by decide +kernel
theorem dX6_drop_14 : decode cX6_drop 14 = .ok (.iload_n 1, 1) := by decide +kernel
theorem dX6_drop_15 : decode cX6_drop 15 = .ok (.invokevirtual 49, 3) := by decide +kernel
theorem dX6_drop_18 : decode cX6_drop 18 = .ok (.ifCond .ne 5, 3) := by decide +kernel
theorem dX6_drop_21 : decode cX6_drop 21 = .ok (.iconst 0, 1) := by decide +kernel
theorem dX6_drop_22 : decode cX6_drop 22 = .ok (.ireturn, 1) := by decide +kernel
theorem dX6_drop_23 : decode cX6_drop 23 = .ok (.aload_n 2, 1) := by decide +kernel
theorem dX6_drop_24 : decode cX6_drop 24 = .ok (.iload_n 3, 1) := by decide +kernel
theorem dX6_drop_25 : decode cX6_drop 25 = .ok (.invokevirtual 69, 3) := by decide +kernel
theorem dX6_drop_28 : decode cX6_drop 28 = .ok (.aload_n 0, 1) := by decide +kernel
theorem dX6_drop_29 : decode cX6_drop 29 = .ok (.invokevirtual 72, 3) := by decide +kernel
theorem dX6_drop_32 : decode cX6_drop 32 = .ok (.iconst 1, 1) := by decide +kernel
theorem dX6_drop_33 : decode cX6_drop 33 = .ok (.ireturn, 1) := by decide +kernel
theorem dX6_entriesFromTo_0 : decode cX6_entriesFromTo 0 = .ok (.aload_n 0, 1) := by decide +kernel
theorem dX6_entriesFromTo_1 : decode cX6_entriesFromTo 1 = .ok (.aload_n 0, 1) := by decide +kernel
theorem dX6_entriesFromTo_2 : decode cX6_entriesFromTo 2 = .ok (.getfield 31, 3) := by decide +kernel
theorem dX6_entriesFromTo_5 : decode cX6_entriesFromTo 5 = .ok (.iload_n 1, 1) := by decide +kernel
theorem dX6_entriesFromTo_6 : decode cX6_entriesFromTo 6 = .ok (.iload_n 2, 1) := by decide +kernel
theorem dX6_entriesFromTo_7 : decode cX6_entriesFromTo 7 = .ok (.iconst 1, 1) := by decide +kernel
theorem dX6_entriesFromTo_8 : decode cX6_entriesFromTo 8 = .ok (.invokevirtual 75, 3) := by decide +kernel
theorem dX6_entriesFromTo_11 : decode cX6_entriesFromTo 11 = .ok (.ireturn, 1) := by decide +kernel
theorem dX6_entriesBelow_0 : decode cX6_entriesBelow 0 = .ok (.iconst 0, 1) := by decide +kernel
theorem dX6_entriesBelow_1 : decode cX6_entriesBelow 1 = .ok (.istore 5, 2) := by decide +kernel
theorem dX6_entriesBelow_3 : decode cX6_entriesBelow 3 = .ok (.iconst 0, 1) := by decide +kernel
theorem dX6_entriesBelow_4 : decode cX6_entriesBelow 4 = .ok (.istore 6, 2) := by decide +kernel
theorem dX6_entriesBelow_6 : decode cX6_entriesBelow 6 = .ok (.iload 6, 2) := by decide +kernel
theorem dX6_entriesBelow_8 : decode cX6_entriesBelow 8 = .ok (.aload_n 1, 1) := by decide +kernel
theorem dX6_entriesBelow_9 : decode cX6_entriesBelow 9 = .ok (.getfield 79, 3) := by decide +kernel
theorem dX6_entriesBelow_12 : decode cX6_entriesBelow 12 = .ok (.if_icmp .ge 73, 3) := by decide +kernel
theorem dX6_entriesBelow_15 : decode cX6_entriesBelow 15 = .ok (.iload 4, 2) := by decide +kernel
theorem dX6_entriesBelow_17 : decode cX6_entriesBelow 17 = .ok (.bipush 6, 2) := by decide +kernel
theorem dX6_entriesBelow_19 : decode cX6_entriesBelow 19 = .ok (.if_icmp .gt 66, 3) := by decide +kernel
theorem dX6_entriesBelow_22 : decode cX6_entriesBelow 22 = .ok (.aload_n 1, 1) := by decide +kernel
theorem dX6_entriesBelow_23 : decode cX6_entriesBelow 23 = .ok (.getfield 82, 3) := by decide +kernel
theorem dX6_entriesBelow_26 : decode cX6_entriesBelow 26 = .ok (.ifCond .ne 28, 3) := by decide +kernel
theorem dX6_entriesBelow_29 : decode cX6_entriesBelow 29 = .ok (.iload 5, 2) := by decide +kernel
theorem dX6_entriesBelow_31 : decode cX6_entriesBelow 31 = .ok (.aload_n 0, 1) := by decide +kernel
theorem dX6_entriesBelow_32 : decode cX6_entriesBelow 32 = .ok (.aload_n 1, 1) := by decide +kernel
theorem dX6_entriesBelow_33 : decode cX6_entriesBelow 33 = .ok (.getfield 86, 3) := by decide +kernel
theorem dX6_entriesBelow_36 : decode cX6_entriesBelow 36 = .ok (.iload 6, 2) := by decide +kernel
theorem dX6_entriesBelow_38 : decode cX6_entriesBelow 38 = .ok (.aaload, 1) := by decide +kernel
theorem dX6_entriesBelow_39 : decode cX6_entriesBelow 39 = .ok (.iload_n 2, 1) := by decide +kernel
theorem dX6_entriesBelow_40 : decode cX6_entriesBelow 40 = .ok (.iload_n 3, 1) := by decide +kernel
theorem dX6_entriesBelow_41 : decode cX6_entriesBelow 41 = .ok (.iload 4, 2) := by decide +kernel
theorem dX6_entriesBelow_43 : decode cX6_entriesBelow 43 = .ok (.iconst 1, 1) := by decide +kernel
theorem dX6_entriesBelow_44 : decode cX6_entriesBelow 44 = .ok (.iadd, 1) := by decide +kernel
theorem dX6_entriesBelow_45 : decode cX6_entriesBelow 45 = .ok (.invokevirtual 75, 3) := by decide +kernel
theorem dX6_entriesBelow_48 : decode cX6_entriesBelow 48 = .ok (.iadd, 1) := by decide +kernel
theorem dX6_entriesBelow_49 : decode cX6_entriesBelow 49 = .ok (.istore 5, 2) := by decide +kernel
theorem dX6_entriesBelow_51 : decode cX6_entriesBelow 51 = .ok (.goto 28, 3) := by decide +kernel
theorem dX6_entriesBelow_54 : decode cX6_entriesBelow 54 = .ok (.aload_n 1, 1) := by decide +kernel
theorem dX6_entriesBelow_55 : decode cX6_entriesBelow 55 = .ok (.getfield 63, 3) := by decide +kernel
theorem dX6_entriesBelow_58 : decode cX6_entriesBelow 58 = .ok (.iload 6, 2) := by decide +kernel
theorem dX6_entriesBelow_60 : decode cX6_entriesBelow 60 = .ok (.iaload, 1) := by decide +kernel
theorem dX6_entriesBelow_61 : decode cX6_entriesBelow 61 = .ok (.iload_n 2, 1) := by decide +kernel
theorem dX6_entriesBelow_62 : decode cX6_entriesBelow 62 = .ok (.if_icmp .lt 17, 3) := by decide +kernel
theorem dX6_entriesBelow_65 : decode cX6_entriesBelow 65 = .ok (.aload_n 1, 1) := by decide +kernel
theorem dX6_entriesBelow_66 : decode cX6_entriesBelow 66 = .ok (.getfield 63, 3) := by decide +kernel
theorem dX6_entriesBelow_69 : decode cX6_entriesBelow 69 = .ok (.iload 6, 2) := by decide +kernel
theorem dX6_entriesBelow_71 : decode cX6_entriesBelow 71 = .ok (.iaload, 1) := by decide +kernel
theorem dX6_entriesBelow_72 : decode cX6_entriesBelow 72 = .ok (.iload_n 3, 1) := by decide +kernel
theorem dX6_entriesBelow_73 : decode cX6_entriesBelow 73 = .ok (.if_icmp .gt 6, 3) := by decide +kernel
theorem dX6_entriesBelow_76 : decode cX6_entriesBelow 76 = .ok (.iinc 5 1, 3) := by decide +kernel
theorem dX6_entriesBelow_79 : decode cX6_entriesBelow 79 = .ok (.iinc 6 1, 3) := by decide +kernel
theorem dX6_entriesBelow_82 : decode cX6_entriesBelow 82 = .ok (.goto (-76), 3) := by decide +kernel
theorem dX6_entriesBelow_85 : decode cX6_entriesBelow 85 = .ok (.iload 5, 2) := by decide +kernel
theorem dX6_entriesBelow_87 : decode cX6_entriesBelow 87 = .ok (.ireturn, 1) := by decide +kernel
theorem dX6_leafFor_0 : decode cX6_leafFor 0 = .ok (.aload_n 0, 1) := by decide +kernel
theorem dX6_leafFor_1 : decode cX6_leafFor 1 = .ok (.getfield 31, 3) := by decide +kernel
theorem dX6_leafFor_4 : decode cX6_leafFor 4 = .ok (.astore_n 2, 1) := by decide +kernel
theorem dX6_leafFor_5 : decode cX6_leafFor 5 = .ok (.aload_n 0, 1) := by decide +kernel
theorem dX6_leafFor_6 : decode cX6_leafFor 6 = .ok (.getfield 20, 3) := by decide +kernel
theorem dX6_leafFor_9 : decode cX6_leafFor 9 = .ok (.iconst 0, 1) := by decide +kernel
theorem dX6_leafFor_10 : decode cX6_leafFor 10 = .ok (.aload_n 2, 1) := by decide +kernel
theorem dX6_leafFor_11 : decode cX6_leafFor 11 = .ok (.aastore, 1) := by decide +kernel
theorem dX6_leafFor_12 : decode cX6_leafFor 12 = .ok (.iconst 1, 1) := by decide +kernel
theorem dX6_leafFor_13 : decode cX6_leafFor 13 = .ok (.istore_n 3, 1) := by decide +kernel
theorem dX6_leafFor_14 : decode cX6_leafFor 14 = .ok (.iload_n 3, 1) := by decide +kernel
theorem dX6_leafFor_15 : decode cX6_leafFor 15 = .ok (.aload_n 0, 1) := by decide +kernel
theorem dX6_leafFor_16 : decode cX6_leafFor 16 = .ok (.getfield 38, 3) := by decide +kernel
theorem dX6_leafFor_19 : decode cX6_leafFor 19 = .ok (.if_icmp .ge 41, 3) := by decide +kernel
theorem dX6_leafFor_22 : decode cX6_leafFor 22 = .ok (.aload_n 2, 1) := by decide +kernel
theorem dX6_leafFor_23 : decode cX6_leafFor 23 = .ok (.iload_n 1, 1) := by decide +kernel
theorem dX6_leafFor_24 : decode cX6_leafFor 24 = .ok (.invokevirtual 89, 3) := by decide +kernel
theorem dX6_leafFor_27 : decode cX6_leafFor 27 = .ok (.istore 4, 2) := by decide +kernel
theorem dX6_leafFor_29 : decode cX6_leafFor 29 = .ok (.aload_n 2, 1) := by decide +kernel
theorem dX6_leafFor_30 : decode cX6_leafFor 30 = .ok (.getfield 86, 3) := by decide +kernel
theorem dX6_leafFor_33 : decode cX6_leafFor 33 = .ok (.iload 4, 2) := by decide +kernel
theorem dX6_leafFor_35 : decode cX6_leafFor 35 = .ok (.aaload, 1) := by decide +kernel
theorem dX6_leafFor_36 : decode cX6_leafFor 36 = .ok (.astore_n 2, 1) := by decide +kernel
theorem dX6_leafFor_37 : decode cX6_leafFor 37 = .ok (.aload_n 0, 1) := by decide +kernel
theorem dX6_leafFor_38 : decode cX6_leafFor 38 = .ok (.getfield 24, 3) := by decide +kernel
theorem dX6_leafFor_41 : decode cX6_leafFor 41 = .ok (.iload_n 3, 1) := by decide +kernel
theorem dX6_leafFor_42 : decode cX6_leafFor 42 = .ok (.iconst 1, 1) := by decide +kernel
theorem dX6_leafFor_43 : decode cX6_leafFor 43 = .ok (.isub, 1) := by decide +kernel
theorem dX6_leafFor_44 : decode cX6_leafFor 44 = .ok (.iload 4, 2) := by decide +kernel
theorem dX6_leafFor_46 : decode cX6_leafFor 46 = .ok (.iastore, 1) := by decide +kernel
theorem dX6_leafFor_47 : decode cX6_leafFor 47 = .ok (.aload_n 0, 1) := by decide +kernel
theorem dX6_leafFor_48 : decode cX6_leafFor 48 = .ok (.getfield 20, 3) := by decide +kernel
theorem dX6_leafFor_51 : decode cX6_leafFor 51 = .ok (.iload_n 3, 1) := by decide +kernel
theorem dX6_leafFor_52 : decode cX6_leafFor 52 = .ok (.aload_n 2, 1) := by decide +kernel
theorem dX6_leafFor_53 : decode cX6_leafFor 53 = .ok (.aastore, 1) := by decide +kernel
theorem dX6_leafFor_54 : decode cX6_leafFor 54 = .ok (.iinc 3 1, 3) := by decide +kernel
theorem dX6_leafFor_57 : decode cX6_leafFor 57 = .ok (.goto (-43), 3) := by decide +kernel
theorem dX6_leafFor_60 : decode cX6_leafFor 60 = .ok (.aload_n 2, 1) := by decide +kernel
theorem dX6_leafFor_61 : decode cX6_leafFor 61 = .ok (.areturn, 1) := by decide +kernel
theorem dX6_splitUpwards_0 : decode cX6_splitUpwards 0 = .ok (.aload_n 0, 1) := by decide +kernel
theorem dX6_splitUpwards_1 : decode cX6_splitUpwards 1 = .ok (.getfield 38, 3) := by decide +kernel
theorem dX6_splitUpwards_4 : decode cX6_splitUpwards 4 = .ok (.iconst 1, 1) := by decide +kernel
theorem dX6_splitUpwards_5 : decode cX6_splitUpwards 5 = .ok (.isub, 1) := by decide +kernel
theorem dX6_splitUpwards_6 : decode cX6_splitUpwards 6 = .ok (.istore_n 1, 1) := by decide +kernel
theorem dX6_splitUpwards_7 : decode cX6_splitUpwards 7 = .ok (.iload_n 1, 1) := by decide +kernel
theorem dX6_splitUpwards_8 : decode cX6_splitUpwards 8 = .ok (.ifCond .le 38, 3) := by decide +kernel
theorem dX6_splitUpwards_11 : decode cX6_splitUpwards 11 = .ok (.aload_n 0, 1) := by decide +kernel
theorem dX6_splitUpwards_12 : decode cX6_splitUpwards 12 = .ok (.getfield 20, 3) := by decide +kernel
theorem dX6_splitUpwards_15 : decode cX6_splitUpwards 15 = .ok (.iload_n 1, 1) := by decide +kernel
theorem dX6_splitUpwards_16 : decode cX6_splitUpwards 16 = .ok (.aaload, 1) := by decide +kernel
theorem dX6_splitUpwards_17 : decode cX6_splitUpwards 17 = .ok (.invokevirtual 35, 3) := by decide +kernel
theorem dX6_splitUpwards_20 : decode cX6_splitUpwards 20 = .ok (.aload_n 0, 1) := by decide +kernel
theorem dX6_splitUpwards_21 : decode cX6_splitUpwards 21 = .ok (.aload_n 0, 1) := by decide +kernel
theorem dX6_splitUpwards_22 : decode cX6_splitUpwards 22 = .ok (.getfield 20, 3) := by decide +kernel
theorem dX6_splitUpwards_25 : decode cX6_splitUpwards 25 = .ok (.iload_n 1, 1) := by decide +kernel
theorem dX6_splitUpwards_26 : decode cX6_splitUpwards 26 = .ok (.iconst 1, 1) := by decide +kernel
theorem dX6_splitUpwards_27 : decode cX6_splitUpwards 27 = .ok (.isub, 1) := by decide +kernel
theorem dX6_splitUpwards_28 : decode cX6_splitUpwards 28 = .ok (.aaload, 1) := by decide +kernel
theorem dX6_splitUpwards_29 : decode cX6_splitUpwards 29 = .ok (.aload_n 0, 1) := by decide +kernel
theorem dX6_splitUpwards_30 : decode cX6_splitUpwards 30 = .ok (.getfield 24, 3) := by decide +kernel
theorem dX6_splitUpwards_33 : decode cX6_splitUpwards 33 = .ok (.iload_n 1, 1) := by decide +kernel
theorem dX6_splitUpwards_34 : decode cX6_splitUpwards 34 = .ok (.iconst 1, 1) := by decide +kernel
theorem dX6_splitUpwards_35 : decode cX6_splitUpwards 35 = .ok (.isub, 1) := by decide +kernel
theorem dX6_splitUpwards_36 : decode cX6_splitUpwards 36 = .ok (.iaload, 1) := by decide +kernel
theorem dX6_splitUpwards_37 : decode cX6_splitUpwards 37 = .ok (.invokevirtual 92, 3) := by decide +kernel
theorem dX6_splitUpwards_40 : decode cX6_splitUpwards 40 = .ok (.iinc 1 (-1), 3) := by decide +kernel
theorem dX6_splitUpwards_43 : decode cX6_splitUpwards 43 = .ok (.goto (-36), 3) := by decide +kernel
theorem dX6_splitUpwards_46 : decode cX6_splitUpwards 46 = .ok (.aload_n 0, 1) := by decide +kernel
theorem dX6_splitUpwards_47 : decode cX6_splitUpwards 47 = .ok (.getfield 31, 3) := by decide +kernel
theorem dX6_splitUpwards_50 : decode cX6_splitUpwards 50 = .ok (.invokevirtual 35, 3) := by decide +kernel
theorem dX6_splitUpwards_53 : decode cX6_splitUpwards 53 = .ok (.aload_n 0, 1) := by decide +kernel
theorem dX6_splitUpwards_54 : decode cX6_splitUpwards 54 = .ok (.getfield 31, 3) := by decide +kernel
theorem dX6_splitUpwards_57 : decode cX6_splitUpwards 57 = .ok (.getfield 79, 3) := by decide +kernel
theorem dX6_splitUpwards_60 : decode cX6_splitUpwards 60 = .ok (.aload_n 0, 1) := by decide +kernel
theorem dX6_splitUpwards_61 : decode cX6_splitUpwards 61 = .ok (.getfield 9, 3) := by decide +kernel
theorem dX6_splitUpwards_64 : decode cX6_splitUpwards 64 = .ok (.if_icmp .le 7, 3) := by decide +kernel
theorem dX6_splitUpwards_67 : decode cX6_splitUpwards 67 = .ok (.aload_n 0, 1) := by decide +kernel
theorem dX6_splitUpwards_68 : decode cX6_splitUpwards 68 = .ok (.invokevirtual 96, 3) := by decide +kernel
theorem dX6_splitUpwards_71 : decode cX6_splitUpwards 71 = .ok (.return_, 1) := by decide +kernel
theorem dX6_growRoot_0 : decode cX6_growRoot 0 = .ok (.new 18, 3) := by decide +kernel
theorem dX6_growRoot_3 : decode cX6_growRoot 3 = .ok (.dup, 1) := by decide +kernel
theorem dX6_growRoot_4 : decode cX6_growRoot 4 = .ok (.iconst 0, 1) := by decide +kernel
theorem dX6_growRoot_5 : decode cX6_growRoot 5 = .ok (.aload_n 0, 1) := by decide +kernel
theorem dX6_growRoot_6 : decode cX6_growRoot 6 = .ok (.getfield 9, 3) := by decide +kernel
theorem dX6_growRoot_9 : decode cX6_growRoot 9 = .ok (.iconst 1, 1) := by decide +kernel
theorem dX6_growRoot_10 : decode cX6_growRoot 10 = .ok (.iadd, 1) := by decide +kernel
theorem dX6_growRoot_11 : decode cX6_growRoot 11 = .ok (.invokespecial 28, 3) := by decide +kernel
theorem dX6_growRoot_14 : decode cX6_growRoot 14 = .ok (.astore_n 1, 1) := by decide +kernel
theorem dX6_growRoot_15 : decode cX6_growRoot 15 = .ok (.aload_n 1, 1) := by decide +kernel
theorem dX6_growRoot_16 : decode cX6_growRoot 16 = .ok (.getfield 86, 3) := by decide +kernel
theorem dX6_growRoot_19 : decode cX6_growRoot 19 = .ok (.iconst 0, 1) := by decide +kernel
theorem dX6_growRoot_20 : decode cX6_growRoot 20 = .ok (.aload_n 0, 1) := by decide +kernel
theorem dX6_growRoot_21 : decode cX6_growRoot 21 = .ok (.getfield 31, 3) := by decide +kernel
theorem dX6_growRoot_24 : decode cX6_growRoot 24 = .ok (.aastore, 1) := by decide +kernel
theorem dX6_growRoot_25 : decode cX6_growRoot 25 = .ok (.aload_n 1, 1) := by decide +kernel
theorem dX6_growRoot_26 : decode cX6_growRoot 26 = .ok (.iconst 1, 1) := by decide +kernel
theorem dX6_growRoot_27 : decode cX6_growRoot 27 = .ok (.putfield 79, 3) := by decide +kernel
theorem dX6_growRoot_30 : decode cX6_growRoot 30 = .ok (.aload_n 0, 1) := by decide +kernel
theorem dX6_growRoot_31 : decode cX6_growRoot 31 = .ok (.aload_n 1, 1) := by decide +kernel
theorem dX6_growRoot_32 : decode cX6_growRoot 32 = .ok (.iconst 0, 1) := by decide +kernel
theorem dX6_growRoot_33 : decode cX6_growRoot 33 = .ok (.invokevirtual 92, 3) := by decide +kernel
theorem dX6_growRoot_36 : decode cX6_growRoot 36 = .ok (.aload_n 1, 1) := by decide +kernel
theorem dX6_growRoot_37 : decode cX6_growRoot 37 = .ok (.invokevirtual 35, 3) := by decide +kernel
theorem dX6_growRoot_40 : decode cX6_growRoot 40 = .ok (.aload_n 0, 1) := by decide +kernel
theorem dX6_growRoot_41 : decode cX6_growRoot 41 = .ok (.aload_n 1, 1) := by decide +kernel
theorem dX6_growRoot_42 : decode cX6_growRoot 42 = .ok (.putfield 31, 3) := by decide +kernel
theorem dX6_growRoot_45 : decode cX6_growRoot 45 = .ok (.aload_n 0, 1) := by decide +kernel
theorem dX6_growRoot_46 : decode cX6_growRoot 46 = .ok (.dup, 1) := by decide +kernel
theorem dX6_growRoot_47 : decode cX6_growRoot 47 = .ok (.getfield 38, 3) := by decide +kernel
theorem dX6_growRoot_50 : decode cX6_growRoot 50 = .ok (.iconst 1, 1) := by decide +kernel
theorem dX6_growRoot_51 : decode cX6_growRoot 51 = .ok (.iadd, 1) := by decide +kernel
theorem dX6_growRoot_52 : decode cX6_growRoot 52 = .ok (.putfield 38, 3) := by decide +kernel
theorem dX6_growRoot_55 : decode cX6_growRoot 55 = .ok (.return_, 1) := by decide +kernel
theorem dX6_splitIfTooLarge_0 : decode cX6_splitIfTooLarge 0 = .ok (.aload_n 1, 1) := by decide +kernel
theorem dX6_splitIfTooLarge_1 : decode cX6_splitIfTooLarge 1 = .ok (.getfield 86, 3) := by decide +kernel
theorem dX6_splitIfTooLarge_4 : decode cX6_splitIfTooLarge 4 = .ok (.iload_n 2, 1) := by decide +kernel
theorem dX6_splitIfTooLarge_5 : decode cX6_splitIfTooLarge 5 = .ok (.aaload, 1) := by decide +kernel
theorem dX6_splitIfTooLarge_6 : decode cX6_splitIfTooLarge 6 = .ok (.astore_n 3, 1) := by decide +kernel
theorem dX6_splitIfTooLarge_7 : decode cX6_splitIfTooLarge 7 = .ok (.aload_n 3, 1) := by decide +kernel
theorem dX6_splitIfTooLarge_8 : decode cX6_splitIfTooLarge 8 = .ok (.getfield 79, 3) := by decide +kernel
theorem dX6_splitIfTooLarge_11 : decode cX6_splitIfTooLarge 11 = .ok (.aload_n 0, 1) := by decide +kernel
theorem dX6_splitIfTooLarge_12 : decode cX6_splitIfTooLarge 12 = .ok (.getfield 9, 3) := by decide +kernel
theorem dX6_splitIfTooLarge_15 : decode cX6_splitIfTooLarge 15 = .ok (.if_icmp .gt 4, 3) := by decide +kernel
theorem dX6_splitIfTooLarge_18 : decode cX6_splitIfTooLarge 18 = .ok (.return_, 1) := by decide +kernel
theorem dX6_splitIfTooLarge_19 : decode cX6_splitIfTooLarge 19 = .ok (.new 18, 3) := by decide +kernel
theorem dX6_splitIfTooLarge_22 : decode cX6_splitIfTooLarge 22 = .ok (.dup, 1) := by decide +kernel
theorem dX6_splitIfTooLarge_23 : decode cX6_splitIfTooLarge 23 = .ok (.aload_n 3, 1) := by decide +kernel
theorem dX6_splitIfTooLarge_24 : decode cX6_splitIfTooLarge 24 = .ok (.getfield 82, 3) := by decide +kernel
theorem dX6_splitIfTooLarge_27 : decode cX6_splitIfTooLarge 27 = .ok (.aload_n 0, 1) := by decide +kernel
theorem dX6_splitIfTooLarge_28 : decode cX6_splitIfTooLarge 28 = .ok (.getfield 9, 3) := by decide +kernel
theorem dX6_splitIfTooLarge_31 : decode cX6_splitIfTooLarge 31 = .ok (.iconst 1, 1) := by decide +kernel
theorem dX6_splitIfTooLarge_32 : decode cX6_splitIfTooLarge 32 = .ok (.iadd, 1) := by decide +kernel
theorem dX6_splitIfTooLarge_33 : decode cX6_splitIfTooLarge 33 = .ok (.invokespecial 28, 3) := by decide +kernel
theorem dX6_splitIfTooLarge_36 : decode cX6_splitIfTooLarge 36 = .ok (.astore 4, 2) := by decide +kernel
theorem dX6_splitIfTooLarge_38 : decode cX6_splitIfTooLarge 38 = .ok (.aload_n 3, 1) := by decide +kernel
theorem dX6_splitIfTooLarge_39 : decode cX6_splitIfTooLarge 39 = .ok (.aload_n 0, 1) := by decide +kernel
theorem dX6_splitIfTooLarge_40 : decode cX6_splitIfTooLarge 40 = .ok (.getfield 9, 3) := by decide +kernel
theorem dX6_splitIfTooLarge_43 : decode cX6_splitIfTooLarge 43 = .ok (.iconst 2, 1) := by decide +kernel
theorem dX6_splitIfTooLarge_44 : decode cX6_splitIfTooLarge 44 = .ok (.iadd, 1) := by decide +kernel
theorem dX6_splitIfTooLarge_45 : decode cX6_splitIfTooLarge 45 = .ok (.iconst 2, 1) := by decide +kernel
theorem dX6_splitIfTooLarge_46 : decode cX6_splitIfTooLarge 46 = .ok (.idiv, 1) := by decide +kernel
theorem dX6_splitIfTooLarge_47 : decode cX6_splitIfTooLarge 47 = .ok (.aload 4, 2) := by decide +kernel
theorem dX6_splitIfTooLarge_49 : decode cX6_splitIfTooLarge 49 = .ok (.invokevirtual 99, 3) := by decide +kernel
theorem dX6_splitIfTooLarge_52 : decode cX6_splitIfTooLarge 52 = .ok (.aload_n 3, 1) := by decide +kernel
theorem dX6_splitIfTooLarge_53 : decode cX6_splitIfTooLarge 53 = .ok (.invokevirtual 35, 3) := by decide +kernel
theorem dX6_splitIfTooLarge_56 : decode cX6_splitIfTooLarge 56 = .ok (.aload 4, 2) := by decide +kernel
theorem dX6_splitIfTooLarge_58 : decode cX6_splitIfTooLarge 58 = .ok (.invokevirtual 35, 3) := by decide +kernel
theorem dX6_splitIfTooLarge_61 : decode cX6_splitIfTooLarge 61 = .ok (.aload_n 1, 1) := by decide +kernel
theorem dX6_splitIfTooLarge_62 : decode cX6_splitIfTooLarge 62 = .ok (.iload_n 2, 1) := by decide +kernel
theorem dX6_splitIfTooLarge_63 : decode cX6_splitIfTooLarge 63 = .ok (.iconst 1, 1) := by decide +kernel
theorem dX6_splitIfTooLarge_64 : decode cX6_splitIfTooLarge 64 = .ok (.iadd, 1) := by decide +kernel
theorem dX6_splitIfTooLarge_65 : decode cX6_splitIfTooLarge 65 = .ok (.invokevirtual 59, 3) := by decide +kernel
theorem dX6_splitIfTooLarge_68 : decode cX6_splitIfTooLarge 68 = .ok (.aload_n 1, 1) := by decide +kernel
theorem dX6_splitIfTooLarge_69 : decode cX6_splitIfTooLarge 69 = .ok (.getfield 86, 3) := by decide +kernel
theorem dX6_splitIfTooLarge_72 : decode cX6_splitIfTooLarge 72 = .ok (.iload_n 2, 1) := by decide +kernel
theorem dX6_splitIfTooLarge_73 : decode cX6_splitIfTooLarge 73 = .ok (.iconst 1, 1) := by decide +kernel
theorem dX6_splitIfTooLarge_74 : decode cX6_splitIfTooLarge 74 = .ok (.iadd, 1) := by decide +kernel
theorem dX6_splitIfTooLarge_75 : decode cX6_splitIfTooLarge 75 = .ok (.aload 4, 2) := by decide +kernel
theorem dX6_splitIfTooLarge_77 : decode cX6_splitIfTooLarge 77 = .ok (.aastore, 1) := by decide +kernel
theorem dX6_splitIfTooLarge_78 : decode cX6_splitIfTooLarge 78 = .ok (.return_, 1) := by decide +kernel
theorem dX6_refillUpwards_0 : decode cX6_refillUpwards 0 = .ok (.aload_n 0, 1) := by decide +kernel
theorem dX6_refillUpwards_1 : decode cX6_refillUpwards 1 = .ok (.getfield 38, 3) := by decide +kernel
theorem dX6_refillUpwards_4 : decode cX6_refillUpwards 4 = .ok (.iconst 1, 1) := by decide +kernel
theorem dX6_refillUpwards_5 : decode cX6_refillUpwards 5 = .ok (.isub, 1) := by decide +kernel
theorem dX6_refillUpwards_6 : decode cX6_refillUpwards 6 = .ok (.istore_n 1, 1) := by decide +kernel
theorem dX6_refillUpwards_7 : decode cX6_refillUpwards 7 = .ok (.iload_n 1, 1) := by decide +kernel
theorem dX6_refillUpwards_8 : decode cX6_refillUpwards 8 = .ok (.ifCond .le 54, 3) := by decide +kernel
theorem dX6_refillUpwards_11 : decode cX6_refillUpwards 11 = .ok (.aload_n 0, 1) := by decide +kernel
theorem dX6_refillUpwards_12 : decode cX6_refillUpwards 12 = .ok (.getfield 20, 3) := by decide +kernel
theorem dX6_refillUpwards_15 : decode cX6_refillUpwards 15 = .ok (.iload_n 1, 1) := by decide +kernel
theorem dX6_refillUpwards_16 : decode cX6_refillUpwards 16 = .ok (.aaload, 1) := by decide +kernel
theorem dX6_refillUpwards_17 : decode cX6_refillUpwards 17 = .ok (.invokevirtual 35, 3) := by decide +kernel
theorem dX6_refillUpwards_20 : decode cX6_refillUpwards 20 = .ok (.aload_n 0, 1) := by decide +kernel
theorem dX6_refillUpwards_21 : decode cX6_refillUpwards 21 = .ok (.getfield 20, 3) := by decide +kernel
theorem dX6_refillUpwards_24 : decode cX6_refillUpwards 24 = .ok (.iload_n 1, 1) := by decide +kernel
theorem dX6_refillUpwards_25 : decode cX6_refillUpwards 25 = .ok (.aaload, 1) := by decide +kernel
theorem dX6_refillUpwards_26 : decode cX6_refillUpwards 26 = .ok (.getfield 79, 3) := by decide +kernel
theorem dX6_refillUpwards_29 : decode cX6_refillUpwards 29 = .ok (.aload_n 0, 1) := by decide +kernel
theorem dX6_refillUpwards_30 : decode cX6_refillUpwards 30 = .ok (.getfield 15, 3) := by decide +kernel
theorem dX6_refillUpwards_33 : decode cX6_refillUpwards 33 = .ok (.if_icmp .ge 23, 3) := by decide +kernel
theorem dX6_refillUpwards_36 : decode cX6_refillUpwards 36 = .ok (.aload_n 0, 1) := by decide +kernel
theorem dX6_refillUpwards_37 : decode cX6_refillUpwards 37 = .ok (.aload_n 0, 1) := by decide +kernel
theorem dX6_refillUpwards_38 : decode cX6_refillUpwards 38 = .ok (.getfield 20, 3) := by decide +kernel
theorem dX6_refillUpwards_41 : decode cX6_refillUpwards 41 = .ok (.iload_n 1, 1) := by decide +kernel
theorem dX6_refillUpwards_42 : decode cX6_refillUpwards 42 = .ok (.iconst 1, 1) := by decide +kernel
theorem dX6_refillUpwards_43 : decode cX6_refillUpwards 43 = .ok (.isub, 1) := by decide +kernel
theorem dX6_refillUpwards_44 : decode cX6_refillUpwards 44 = .ok (.aaload, 1) := by decide +kernel
theorem dX6_refillUpwards_45 : decode cX6_refillUpwards 45 = .ok (.aload_n 0, 1) := by decide +kernel
theorem dX6_refillUpwards_46 : decode cX6_refillUpwards 46 = .ok (.getfield 24, 3) := by decide +kernel
theorem dX6_refillUpwards_49 : decode cX6_refillUpwards 49 = .ok (.iload_n 1, 1) := by decide +kernel
theorem dX6_refillUpwards_50 : decode cX6_refillUpwards 50 = .ok (.iconst 1, 1) := by decide +kernel
theorem dX6_refillUpwards_51 : decode cX6_refillUpwards 51 = .ok (.isub, 1) := by decide +kernel
theorem dX6_refillUpwards_52 : decode cX6_refillUpwards 52 = .ok (.iaload, 1) := by decide +kernel
theorem dX6_refillUpwards_53 : decode cX6_refillUpwards 53 = .ok (.invokevirtual 103, 3) := by decide +kernel
theorem dX6_refillUpwards_56 : decode cX6_refillUpwards 56 = .ok (.iinc 1 (-1), 3) := by decide +kernel
theorem dX6_refillUpwards_59 : decode cX6_refillUpwards 59 = .ok (.goto (-52), 3) := by decide +kernel
theorem dX6_refillUpwards_62 : decode cX6_refillUpwards 62 = .ok (.aload_n 0, 1) := by decide +kernel
theorem dX6_refillUpwards_63 : decode cX6_refillUpwards 63 = .ok (.getfield 31, 3) := by decide +kernel
theorem dX6_refillUpwards_66 : decode cX6_refillUpwards 66 = .ok (.invokevirtual 35, 3) := by decide +kernel
theorem dX6_refillUpwards_69 : decode cX6_refillUpwards 69 = .ok (.aload_n 0, 1) := by decide +kernel
theorem dX6_refillUpwards_70 : decode cX6_refillUpwards 70 = .ok (.getfield 31, 3) := by decide +kernel
theorem dX6_refillUpwards_73 : decode cX6_refillUpwards 73 = .ok (.getfield 82, 3) := by decide +kernel
theorem dX6_refillUpwards_76 : decode cX6_refillUpwards 76 = .ok (.ifCond .ne 37, 3) := by decide +kernel
theorem dX6_refillUpwards_79 : decode cX6_refillUpwards 79 = .ok (.aload_n 0, 1) := by decide +kernel
theorem dX6_refillUpwards_80 : decode cX6_refillUpwards 80 = .ok (.getfield 31, 3) := by decide +kernel
theorem dX6_refillUpwards_83 : decode cX6_refillUpwards 83 = .ok (.getfield 79, 3) := by decide +kernel
theorem dX6_refillUpwards_86 : decode cX6_refillUpwards 86 = .ok (.iconst 1, 1) := by decide +kernel
theorem dX6_refillUpwards_87 : decode cX6_refillUpwards 87 = .ok (.if_icmp .ne 26, 3) := by decide +kernel
theorem dX6_refillUpwards_90 : decode cX6_refillUpwards 90 = .ok (.aload_n 0, 1) := by decide +kernel
theorem dX6_refillUpwards_91 : decode cX6_refillUpwards 91 = .ok (.aload_n 0, 1) := by decide +kernel
theorem dX6_refillUpwards_92 : decode cX6_refillUpwards 92 = .ok (.getfield 31, 3) := by decide +kernel
theorem dX6_refillUpwards_95 : decode cX6_refillUpwards 95 = .ok (.getfield 86, 3) := by decide +kernel
theorem dX6_refillUpwards_98 : decode cX6_refillUpwards 98 = .ok (.iconst 0, 1) := by decide +kernel
theorem dX6_refillUpwards_99 : decode cX6_refillUpwards 99 = .ok (.aaload, 1) := by decide +kernel
theorem dX6_refillUpwards_100 : decode cX6_refillUpwards 100 = .ok (.putfield 31, 3) := by decide +kernel
theorem dX6_refillUpwards_103 : decode cX6_refillUpwards 103 = .ok (.aload_n 0, 1) := by decide +kernel
theorem dX6_refillUpwards_104 : decode cX6_refillUpwards 104 = .ok (.dup, 1) := by decide +kernel
theorem dX6_refillUpwards_105 : decode cX6_refillUpwards 105 = .ok (.getfield 38, 3) := by decide +kernel
theorem dX6_refillUpwards_108 : decode cX6_refillUpwards 108 = .ok (.iconst 1, 1) := by decide +kernel
theorem dX6_refillUpwards_109 : decode cX6_refillUpwards 109 = .ok (.isub, 1) := by decide +kernel
theorem dX6_refillUpwards_110 : decode cX6_refillUpwards 110 = .ok (.putfield 38, 3) := by decide +kernel
theorem dX6_refillUpwards_113 : decode cX6_refillUpwards 113 = .ok (.return_, 1) := by decide +kernel
theorem dX6_refill_0 : decode cX6_refill 0 = .ok (.aload_n 1, 1) := by decide +kernel
theorem dX6_refill_1 : decode cX6_refill 1 = .ok (.getfield 86, 3) := by decide +kernel
theorem dX6_refill_4 : decode cX6_refill 4 = .ok (.iload_n 2, 1) := by decide +kernel
theorem dX6_refill_5 : decode cX6_refill 5 = .ok (.aaload, 1) := by decide +kernel
theorem dX6_refill_6 : decode cX6_refill 6 = .ok (.astore_n 3, 1) := by decide +kernel
theorem dX6_refill_7 : decode cX6_refill 7 = .ok (.iload_n 2, 1) := by decide +kernel
theorem dX6_refill_8 : decode cX6_refill 8 = .ok (.ifCond .le 14, 3) := by decide +kernel
theorem dX6_refill_11 : decode cX6_refill 11 = .ok (.aload_n 1, 1) := by decide +kernel
theorem dX6_refill_12 : decode cX6_refill 12 = .ok (.getfield 86, 3) := by decide +kernel
theorem dX6_refill_15 : decode cX6_refill 15 = .ok (.iload_n 2, 1) := by decide +kernel
theorem dX6_refill_16 : decode cX6_refill 16 = .ok (.iconst 1, 1) := by decide +kernel
theorem dX6_refill_17 : decode cX6_refill 17 = .ok (.isub, 1) := by decide +kernel
theorem dX6_refill_18 : decode cX6_refill 18 = .ok (.aaload, 1) := by decide +kernel
theorem dX6_refill_19 : decode cX6_refill 19 = .ok (.goto 4, 3) := by decide +kernel
theorem dX6_refill_22 : decode cX6_refill 22 = .ok (.aconst_null, 1) := by decide +kernel
theorem dX6_refill_23 : decode cX6_refill 23 = .ok (.astore 4, 2) := by decide +kernel
theorem dX6_refill_25 : decode cX6_refill 25 = .ok (.iload_n 2, 1) := by decide +kernel
theorem dX6_refill_26 : decode cX6_refill 26 = .ok (.iconst 1, 1) := by decide +kernel
theorem dX6_refill_27 : decode cX6_refill 27 = .ok (.iadd, 1) := by decide +kernel
theorem dX6_refill_28 : decode cX6_refill 28 = .ok (.aload_n 1, 1) := by decide +kernel
theorem dX6_refill_29 : decode cX6_refill 29 = .ok (.getfield 79, 3) := by decide +kernel
theorem dX6_refill_32 : decode cX6_refill 32 = .ok (.if_icmp .ge 14, 3) := by decide +kernel
theorem dX6_refill_35 : decode cX6_refill 35 = .ok (.aload_n 1, 1) := by decide +kernel
theorem dX6_refill_36 : decode cX6_refill 36 = .ok (.getfield 86, 3) := by decide +kernel
theorem dX6_refill_39 : decode cX6_refill 39 = .ok (.iload_n 2, 1) := by decide +kernel
theorem dX6_refill_40 : decode cX6_refill 40 = .ok (.iconst 1, 1) := by decide +kernel
theorem dX6_refill_41 : decode cX6_refill 41 = .ok (.iadd, 1) := by decide +kernel
theorem dX6_refill_42 : decode cX6_refill 42 = .ok (.aaload, 1) := by decide +kernel
theorem dX6_refill_43 : decode cX6_refill 43 = .ok (.goto 4, 3) := by decide +kernel
theorem dX6_refill_46 : decode cX6_refill 46 = .ok (.aconst_null, 1) := by decide +kernel
theorem dX6_refill_47 : decode cX6_refill 47 = .ok (.astore 5, 2) := by decide +kernel
theorem dX6_refill_49 : decode cX6_refill 49 = .ok (.aload 4, 2) := by decide +kernel
theorem dX6_refill_51 : decode cX6_refill 51 = .ok (.ifnull 41, 3) := by decide +kernel
theorem dX6_refill_54 : decode cX6_refill 54 = .ok (.aload 4, 2) := by decide +kernel
theorem dX6_refill_56 : decode cX6_refill 56 = .ok (.getfield 79, 3) := by decide +kernel
theorem dX6_refill_59 : decode cX6_refill 59 = .ok (.aload_n 0, 1) := by decide +kernel
theorem dX6_refill_60 : decode cX6_refill 60 = .ok (.getfield 15, 3) := by decide +kernel
theorem dX6_refill_63 : decode cX6_refill 63 = .ok (.if_icmp .le 29, 3) := by decide +kernel
theorem dX6_refill_66 : decode cX6_refill 66 = .ok (.aload 4, 2) := by decide +kernel
theorem dX6_refill_68 : decode cX6_refill 68 = .ok (.aload 4, 2) := by decide +kernel
theorem dX6_refill_70 : decode cX6_refill 70 = .ok (.getfield 79, 3) := by decide +kernel
theorem dX6_refill_73 : decode cX6_refill 73 = .ok (.iconst 1, 1) := by decide +kernel
theorem dX6_refill_74 : decode cX6_refill 74 = .ok (.isub, 1) := by decide +kernel
theorem dX6_refill_75 : decode cX6_refill 75 = .ok (.aload_n 3, 1) := by decide +kernel
theorem dX6_refill_76 : decode cX6_refill 76 = .ok (.iconst 0, 1) := by decide +kernel
theorem dX6_refill_77 : decode cX6_refill 77 = .ok (.invokevirtual 106, 3) := by decide +kernel
theorem dX6_refill_80 : decode cX6_refill 80 = .ok (.aload 4, 2) := by decide +kernel
theorem dX6_refill_82 : decode cX6_refill 82 = .ok (.invokevirtual 35, 3) := by decide +kernel
theorem dX6_refill_85 : decode cX6_refill 85 = .ok (.aload_n 3, 1) := by decide +kernel
theorem dX6_refill_86 : decode cX6_refill 86 = .ok (.invokevirtual 35, 3) := by decide +kernel
theorem dX6_refill_89 : decode cX6_refill 89 = .ok (.goto 70, 3) := by decide +kernel
theorem dX6_refill_92 : decode cX6_refill 92 = .ok (.aload 5, 2) := by decide +kernel
theorem dX6_refill_94 : decode cX6_refill 94 = .ok (.ifnull 38, 3) := by decide +kernel
theorem dX6_refill_97 : decode cX6_refill 97 = .ok (.aload 5, 2) := by decide +kernel
theorem dX6_refill_99 : decode cX6_refill 99 = .ok (.getfield 79, 3) := by decide +kernel
theorem dX6_refill_102 : decode cX6_refill 102 = .ok (.aload_n 0, 1) := by decide +kernel
theorem dX6_refill_103 : decode cX6_refill 103 = .ok (.getfield 15, 3) := by decide +kernel
theorem dX6_refill_106 : decode cX6_refill 106 = .ok (.if_icmp .le 26, 3) := by decide +kernel
theorem dX6_refill_109 : decode cX6_refill 109 = .ok (.aload 5, 2) := by decide +kernel
theorem dX6_refill_111 : decode cX6_refill 111 = .ok (.iconst 0, 1) := by decide +kernel
theorem dX6_refill_112 : decode cX6_refill 112 = .ok (.aload_n 3, 1) := by decide +kernel
theorem dX6_refill_113 : decode cX6_refill 113 = .ok (.aload_n 3, 1) := by decide +kernel
theorem dX6_refill_114 : decode cX6_refill 114 = .ok (.getfield 79, 3) := by decide +kernel
theorem dX6_refill_117 : decode cX6_refill 117 = .ok (.invokevirtual 106, 3) := by decide +kernel
theorem dX6_refill_120 : decode cX6_refill 120 = .ok (.aload 5, 2) := by decide +kernel
theorem dX6_refill_122 : decode cX6_refill 122 = .ok (.invokevirtual 35, 3) := by decide +kernel
theorem dX6_refill_125 : decode cX6_refill 125 = .ok (.aload_n 3, 1) := by decide +kernel
theorem dX6_refill_126 : decode cX6_refill 126 = .ok (.invokevirtual 35, 3) := by decide +kernel
theorem dX6_refill_129 : decode cX6_refill 129 = .ok (.goto 30, 3) := by decide +kernel
theorem dX6_refill_132 : decode cX6_refill 132 = .ok (.aload 4, 2) := by decide +kernel
theorem dX6_refill_134 : decode cX6_refill 134 = .ok (.ifnull 14, 3) := by decide +kernel
theorem dX6_refill_137 : decode cX6_refill 137 = .ok (.aload_n 0, 1) := by decide +kernel
theorem dX6_refill_138 : decode cX6_refill 138 = .ok (.aload_n 1, 1) := by decide +kernel
theorem dX6_refill_139 : decode cX6_refill 139 = .ok (.iload_n 2, 1) := by decide +kernel
theorem dX6_refill_140 : decode cX6_refill 140 = .ok (.iconst 1, 1) := by decide +kernel
theorem dX6_refill_141 : decode cX6_refill 141 = .ok (.isub, 1) := by decide +kernel
theorem dX6_refill_142 : decode cX6_refill 142 = .ok (.invokevirtual 110, 3) := by decide +kernel
theorem dX6_refill_145 : decode cX6_refill 145 = .ok (.goto 14, 3) := by decide +kernel
theorem dX6_refill_148 : decode cX6_refill 148 = .ok (.aload 5, 2) := by decide +kernel
theorem dX6_refill_150 : decode cX6_refill 150 = .ok (.ifnull 9, 3) := by decide +kernel
theorem dX6_refill_153 : decode cX6_refill 153 = .ok (.aload_n 0, 1) := by decide +kernel
theorem dX6_refill_154 : decode cX6_refill 154 = .ok (.aload_n 1, 1) := by decide +kernel
theorem dX6_refill_155 : decode cX6_refill 155 = .ok (.iload_n 2, 1) := by decide +kernel
theorem dX6_refill_156 : decode cX6_refill 156 = .ok (.invokevirtual 110, 3) := by decide +kernel
theorem dX6_refill_159 : decode cX6_refill 159 = .ok (.return_, 1) := by decide +kernel
theorem dX6_join_0 : decode cX6_join 0 = .ok (.aload_n 1, 1) := by decide +kernel
theorem dX6_join_1 : decode cX6_join 1 = .ok (.getfield 86, 3) := by decide +kernel
theorem dX6_join_4 : decode cX6_join 4 = .ok (.iload_n 2, 1) := by decide +kernel
theorem dX6_join_5 : decode cX6_join 5 = .ok (.aaload, 1) := by decide +kernel
theorem dX6_join_6 : decode cX6_join 6 = .ok (.astore_n 3, 1) := by decide +kernel
theorem dX6_join_7 : decode cX6_join 7 = .ok (.aload_n 1, 1) := by decide +kernel
theorem dX6_join_8 : decode cX6_join 8 = .ok (.getfield 86, 3) := by decide +kernel
theorem dX6_join_11 : decode cX6_join 11 = .ok (.iload_n 2, 1) := by decide +kernel
theorem dX6_join_12 : decode cX6_join 12 = .ok (.iconst 1, 1) := by decide +kernel
theorem dX6_join_13 : decode cX6_join 13 = .ok (.iadd, 1) := by decide +kernel
theorem dX6_join_14 : decode cX6_join 14 = .ok (.aaload, 1) := by decide +kernel
theorem dX6_join_15 : decode cX6_join 15 = .ok (.iconst 0, 1) := by decide +kernel
theorem dX6_join_16 : decode cX6_join 16 = .ok (.aload_n 3, 1) := by decide +kernel
theorem dX6_join_17 : decode cX6_join 17 = .ok (.invokevirtual 99, 3) := by decide +kernel
theorem dX6_join_20 : decode cX6_join 20 = .ok (.aload_n 3, 1) := by decide +kernel
theorem dX6_join_21 : decode cX6_join 21 = .ok (.invokevirtual 35, 3) := by decide +kernel
theorem dX6_join_24 : decode cX6_join 24 = .ok (.aload_n 1, 1) := by decide +kernel
theorem dX6_join_25 : decode cX6_join 25 = .ok (.iload_n 2, 1) := by decide +kernel
theorem dX6_join_26 : decode cX6_join 26 = .ok (.iconst 1, 1) := by decide +kernel
theorem dX6_join_27 : decode cX6_join 27 = .ok (.iadd, 1) := by decide +kernel
theorem dX6_join_28 : decode cX6_join 28 = .ok (.invokevirtual 69, 3) := by decide +kernel
theorem dX6_join_31 : decode cX6_join 31 = .ok (.return_, 1) := by decide +kernel
theorem dX7_init_0 : decode cX7_init 0 = .ok (.aload_n 0, 1) := by decide +kernel
theorem dX7_init_1 : decode cX7_init 1 = .ok (.invokespecial 3, 3) := by decide +kernel
theorem dX7_init_4 : decode cX7_init 4 = .ok (.iload_n 1, 1) := by decide +kernel
theorem dX7_init_5 : decode cX7_init 5 = .ok (.iconst 3, 1) := by decide +kernel
theorem dX7_init_6 : decode cX7_init 6 = .ok (.if_icmp .lt 12, 3) := by decide +kernel
theorem dX7_init_9 : decode cX7_init 9 = .ok (.iload_n 1, 1) := by decide +kernel
theorem dX7_init_10 : decode cX7_init 10 = .ok (.iconst 5, 1) := by decide +kernel
theorem dX7_init_11 : decode cX7_init 11 = .ok (.if_icmp .gt 7, 3) := by decide +kernel
theorem dX7_init_14 : decode cX7_init 14 = .ok (.iload_n 1, 1) := by decide +kernel
theorem dX7_init_15 : decode cX7_init 15 = .ok (.goto 4, 3) := by decide +kernel
theorem dX7_init_18 : decode cX7_init 18 = .ok (.iconst 4, 1) := by decide +kernel
theorem dX7_init_19 : decode cX7_init 19 = .ok (.istore_n 2, 1) := by decide +kernel
theorem dX7_init_20 : decode cX7_init 20 = .ok (.aload_n 0, 1) := by decide +kernel
theorem dX7_init_21 : decode cX7_init 21 = .ok (.new 9, 3) := by decide +kernel
theorem dX7_init_24 : decode cX7_init 24 = .ok (.dup, 1) := by decide +kernel
theorem dX7_init_25 : decode cX7_init 25 = .ok (.iload_n 2, 1) := by decide +kernel
theorem dX7_init_26 : decode cX7_init 26 = .ok (.invokespecial 11, 3) := by decide +kernel
theorem dX7_init_29 : decode cX7_init 29 = .ok (.putfield 14, 3) := by decide +kernel
theorem dX7_init_32 : decode cX7_init 32 = .ok (.aload_n 0, 1) := by decide +kernel
theorem dX7_init_33 : decode cX7_init 33 = .ok (.new 18, 3) := by decide +kernel
theorem dX7_init_36 : decode cX7_init 36 = .ok (.dup, 1) := by decide +kernel
theorem dX7_init_37 : decode cX7_init 37 = .ok (.invokespecial 20, 3) := by decide +kernel
theorem dX7_init_40 : decode cX7_init 40 = .ok (.putfield 21, 3) := by decide +kernel
theorem dX7_init_43 : decode cX7_init 43 = .ok (.aload_n 0, 1) := by decide +kernel
theorem dX7_init_44 : decode cX7_init 44 = .ok (.new 25, 3) := by decide +kernel
theorem dX7_init_47 : decode cX7_init 47 = .ok (.dup, 1) := by decide +kernel
theorem dX7_init_48 : decode cX7_init 48 = .ok (.iload_n 2, 1) := by decide +kernel
theorem dX7_init_49 : decode cX7_init 49 = .ok (.aload_n 0, 1) := by decide +kernel
theorem dX7_init_50 : decode cX7_init 50 = .ok (.getfield 21, 3) := by decide +kernel
theorem dX7_init_53 : decode cX7_init 53 = .ok (.invokespecial 27, 3) := by decide +kernel
theorem dX7_init_56 : decode cX7_init 56 = .ok (.putfield 30, 3) := by decide +kernel
theorem dX7_init_59 : decode cX7_init 59 = .ok (.aload_n 0, 1) := by decide +kernel
theorem dX7_init_60 : decode cX7_init 60 = .ok (.new 34, 3) := by decide +kernel
theorem dX7_init_63 : decode cX7_init 63 = .ok (.dup, 1) := by decide +kernel
theorem dX7_init_64 : decode cX7_init 64 = .ok (.invokespecial 36, 3) := by decide +kernel
theorem dX7_init_67 : decode cX7_init 67 = .ok (.putfield 37, 3) := by decide +kernel
theorem dX7_init_70 : decode cX7_init 70 = .ok (.return_, 1) := by decide +kernel
theorem dX7_put_0 : decode cX7_put 0 = .ok (.iload_n 1, 1) := by decide +kernel
theorem dX7_put_1 : decode cX7_put 1 = .ok (.sipush (-9999), 3) := by decide +kernel
theorem dX7_put_4 : decode cX7_put 4 = .ok (.if_icmp .lt 10, 3) := by decide +kernel
theorem dX7_put_7 : decode cX7_put 7 = .ok (.iload_n 1, 1) := by decide +kernel
theorem dX7_put_8 : decode cX7_put 8 = .ok (.sipush 9999, 3) := by decide +kernel
theorem dX7_put_11 : decode cX7_put 11 = .ok (.if_icmp .le 5, 3) := by decide +kernel
theorem dX7_put_14 : decode cX7_put 14 = .ok (.iconst 0, 1) := by decide +kernel
theorem dX7_put_15 : decode cX7_put 15 = .ok (.ireturn, 1) := by decide +kernel
theorem dX7_put_16 : decode cX7_put 16 = .ok (.aload_n 0, 1) := by decide +kernel
theorem dX7_put_17 : decode cX7_put 17 = .ok (.getfield 14, 3) := by decide +kernel
theorem dX7_put_20 : decode cX7_put 20 = .ok (.iload_n 1, 1) := by decide +kernel
theorem dX7_put_21 : decode cX7_put 21 = .ok (.iload_n 2, 1) := by decide +kernel
theorem dX7_put_22 : decode cX7_put 22 = .ok (.invokevirtual 41, 3) := by decide +kernel
theorem dX7_put_25 : decode cX7_put 25 = .ok (.ireturn, 1) := by decide +kernel
theorem dX7_remove_0 : decode cX7_remove 0 = .ok (.aload_n 0, 1) := by decide +kernel
theorem dX7_remove_1 : decode cX7_remove 1 = .ok (.getfield 14, 3) := by decide +kernel
theorem dX7_remove_4 : decode cX7_remove 4 = .ok (.iload_n 1, 1) := by decide +kernel
theorem dX7_remove_5 : decode cX7_remove 5 = .ok (.invokevirtual 45, 3) := by decide +kernel
theorem dX7_remove_8 : decode cX7_remove 8 = .ok (.ireturn, 1) := by decide +kernel
theorem dX7_get_0 : decode cX7_get 0 = .ok (.aload_n 0, 1) := by decide +kernel
theorem dX7_get_1 : decode cX7_get 1 = .ok (.getfield 14, 3) := by decide +kernel
theorem dX7_get_4 : decode cX7_get 4 = .ok (.iload_n 1, 1) := by decide +kernel
theorem dX7_get_5 : decode cX7_get 5 = .ok (.invokevirtual 49, 3) := by decide +kernel
theorem dX7_get_8 : decode cX7_get 8 = .ok (.ireturn, 1) := by decide +kernel
theorem dX7_size_0 : decode cX7_size 0 = .ok (.aload_n 0, 1) := by decide +kernel
theorem dX7_size_1 : decode cX7_size 1 = .ok (.getfield 14, 3) := by decide +kernel
theorem dX7_size_4 : decode cX7_size 4 = .ok (.getfield 53, 3) := by decide +kernel
theorem dX7_size_7 : decode cX7_size 7 = .ok (.getfield 57, 3) := by decide +kernel
theorem dX7_size_10 : decode cX7_size 10 = .ok (.ireturn, 1) := by decide +kernel
theorem dX7_height_0 : decode cX7_height 0 = .ok (.aload_n 0, 1) := by decide +kernel
theorem dX7_height_1 : decode cX7_height 1 = .ok (.getfield 14, 3) := by decide +kernel
theorem dX7_height_4 : decode cX7_height 4 = .ok (.getfield 63, 3) := by decide +kernel
theorem dX7_height_7 : decode cX7_height 7 = .ok (.ireturn, 1) := by decide +kernel
theorem dX7_root_0 : decode cX7_root 0 = .ok (.aload_n 0, 1) := by decide +kernel
theorem dX7_root_1 : decode cX7_root 1 = .ok (.getfield 14, 3) := by decide +kernel
theorem dX7_root_4 : decode cX7_root 4 = .ok (.getfield 53, 3) := by decide +kernel
theorem dX7_root_7 : decode cX7_root 7 = .ok (.getfield 66, 3) := by decide +kernel
theorem dX7_root_10 : decode cX7_root 10 = .ok (.ireturn, 1) := by decide +kernel
theorem dX7_within_0 : decode cX7_within 0 = .ok (.aload_n 0, 1) := by decide +kernel
theorem dX7_within_1 : decode cX7_within 1 = .ok (.getfield 14, 3) := by decide +kernel
theorem dX7_within_4 : decode cX7_within 4 = .ok (.iload_n 1, 1) := by decide +kernel
theorem dX7_within_5 : decode cX7_within 5 = .ok (.iload_n 2, 1) := by decide +kernel
theorem dX7_within_6 : decode cX7_within 6 = .ok (.invokevirtual 69, 3) := by decide +kernel
theorem dX7_within_9 : decode cX7_within 9 = .ok (.ireturn, 1) := by decide +kernel
theorem dX7_prove_0 : decode cX7_prove 0 = .ok (.iload_n 1, 1) := by decide +kernel
theorem dX7_prove_1 : decode cX7_prove 1 = .ok (.iload_n 2, 1) := by decide +kernel
theorem dX7_prove_2 : decode cX7_prove 2 = .ok (.if_icmp .le 5, 3) := by decide +kernel
theorem dX7_prove_5 : decode cX7_prove 5 = .ok (.iconst (-1), 1) := by decide +kernel
theorem dX7_prove_6 : decode cX7_prove 6 = .ok (.ireturn, 1) := by decide +kernel
theorem dX7_prove_7 : decode cX7_prove 7 = .ok (.aload_n 0, 1) := by decide +kernel
theorem dX7_prove_8 : decode cX7_prove 8 = .ok (.getfield 21, 3) := by decide +kernel
theorem dX7_prove_11 : decode cX7_prove 11 = .ok (.iconst 0, 1) := by decide +kernel
theorem dX7_prove_12 : decode cX7_prove 12 = .ok (.putfield 72, 3) := by decide +kernel
theorem dX7_prove_15 : decode cX7_prove 15 = .ok (.new 75, 3) := by decide +kernel
theorem dX7_prove_18 : decode cX7_prove 18 = .ok (.dup, 1) := by decide +kernel
theorem dX7_prove_19 : decode cX7_prove 19 = .ok (.aload_n 0, 1) := by decide +kernel
theorem dX7_prove_20 : decode cX7_prove 20 = .ok (.getfield 21, 3) := by decide +kernel
theorem dX7_prove_23 : decode cX7_prove 23 = .ok (.new 77, 3) := by decide +kernel
theorem dX7_prove_26 : decode cX7_prove 26 = .ok (.dup, 1) := by decide +kernel
theorem dX7_prove_27 : decode cX7_prove 27 = .ok (.iload_n 1, 1) := by decide +kernel
theorem dX7_prove_28 : decode cX7_prove 28 = .ok (.iload_n 2, 1) := by decide +kernel
theorem dX7_prove_29 : decode cX7_prove 29 = .ok (.iload_n 3, 1) := by decide +kernel
theorem dX7_prove_30 : decode cX7_prove 30 = .ok (.invokespecial 79, 3) := by decide +kernel
theorem dX7_prove_33 : decode cX7_prove 33 = .ok (.invokespecial 82, 3) := by decide +kernel
theorem dX7_prove_36 : decode cX7_prove 36 = .ok (.aload_n 0, 1) := by decide +kernel
theorem dX7_prove_37 : decode cX7_prove 37 = .ok (.getfield 14, 3) := by decide +kernel
theorem dX7_prove_40 : decode cX7_prove 40 = .ok (.getfield 53, 3) := by decide +kernel
theorem dX7_prove_43 : decode cX7_prove 43 = .ok (.ldc2_w 85, 3) := by decide +kernel
theorem dX7_prove_46 : decode cX7_prove 46 = .ok (.ldc2_w 87, 3) := by decide +kernel
theorem dX7_prove_49 : decode cX7_prove 49 = .ok (.iconst 1, 1) := by decide +kernel
theorem dX7_prove_50 : decode cX7_prove 50 = .ok (.invokevirtual 89, 3) := by decide +kernel
theorem dX7_prove_53 : decode cX7_prove 53 = .ok (.aload_n 0, 1) := by decide +kernel
theorem dX7_prove_54 : decode cX7_prove 54 = .ok (.getfield 21, 3) := by decide +kernel
theorem dX7_prove_57 : decode cX7_prove 57 = .ok (.getfield 72, 3) := by decide +kernel
theorem dX7_prove_60 : decode cX7_prove 60 = .ok (.ireturn, 1) := by decide +kernel
theorem dX7_token_0 : decode cX7_token 0 = .ok (.aload_n 0, 1) := by decide +kernel
theorem dX7_token_1 : decode cX7_token 1 = .ok (.getfield 21, 3) := by decide +kernel
theorem dX7_token_4 : decode cX7_token 4 = .ok (.iload_n 1, 1) := by decide +kernel
theorem dX7_token_5 : decode cX7_token 5 = .ok (.invokevirtual 93, 3) := by decide +kernel
theorem dX7_token_8 : decode cX7_token 8 = .ok (.ifCond .eq 15, 3) := by decide +kernel
theorem dX7_token_11 : decode cX7_token 11 = .ok (.aload_n 0, 1) := by decide +kernel
theorem dX7_token_12 : decode cX7_token 12 = .ok (.getfield 21, 3) := by decide +kernel
theorem dX7_token_15 : decode cX7_token 15 = .ok (.getfield 96, 3) := by decide +kernel
theorem dX7_token_18 : decode cX7_token 18 = .ok (.iload_n 1, 1) := by decide +kernel
theorem dX7_token_19 : decode cX7_token 19 = .ok (.iaload, 1) := by decide +kernel
theorem dX7_token_20 : decode cX7_token 20 = .ok (.goto 4, 3) := by decide +kernel
theorem dX7_token_23 : decode cX7_token 23 = .ok (.iconst 0, 1) := by decide +kernel
theorem dX7_token_24 : decode cX7_token 24 = .ok (.ireturn, 1) := by decide +kernel
theorem dX7_alter_0 : decode cX7_alter 0 = .ok (.aload_n 0, 1) := by decide +kernel
theorem dX7_alter_1 : decode cX7_alter 1 = .ok (.getfield 21, 3) := by decide +kernel
theorem dX7_alter_4 : decode cX7_alter 4 = .ok (.iload_n 1, 1) := by decide +kernel
theorem dX7_alter_5 : decode cX7_alter 5 = .ok (.invokevirtual 93, 3) := by decide +kernel
theorem dX7_alter_8 : decode cX7_alter 8 = .ok (.ifCond .ne 5, 3) := by decide +kernel
theorem dX7_alter_11 : decode cX7_alter 11 = .ok (.iconst 0, 1) := by decide +kernel
theorem dX7_alter_12 : decode cX7_alter 12 = .ok (.ireturn, 1) := by decide +kernel
theorem dX7_alter_13 : decode cX7_alter 13 = .ok (.aload_n 0, 1) := by decide +kernel
theorem dX7_alter_14 : decode cX7_alter 14 = .ok (.getfield 21, 3) := by decide +kernel
theorem dX7_alter_17 : decode cX7_alter 17 = .ok (.getfield 96, 3) := by decide +kernel
theorem dX7_alter_20 : decode cX7_alter 20 = .ok (.iload_n 1, 1) := by decide +kernel
theorem dX7_alter_21 : decode cX7_alter 21 = .ok (.iload_n 2, 1) := by decide +kernel
theorem dX7_alter_22 : decode cX7_alter 22 = .ok (.iastore, 1) := by decide +kernel
theorem dX7_alter_23 : decode cX7_alter 23 = .ok (.iconst 1, 1) := by decide +kernel
theorem dX7_alter_24 : decode cX7_alter 24 = .ok (.ireturn, 1) := by decide +kernel
theorem dX7_trim_0 : decode cX7_trim 0 = .ok (.iload_n 1, 1) := by decide +kernel
theorem dX7_trim_1 : decode cX7_trim 1 = .ok (.ifCond .lt 14, 3) := by decide +kernel
theorem dX7_trim_4 : decode cX7_trim 4 = .ok (.iload_n 1, 1) := by decide +kernel
theorem dX7_trim_5 : decode cX7_trim 5 = .ok (.aload_n 0, 1) := by decide +kernel
theorem dX7_trim_6 : decode cX7_trim 6 = .ok (.getfield 21, 3) := by decide +kernel
theorem dX7_trim_9 : decode cX7_trim 9 = .ok (.getfield 72, 3) := by decide +kernel
theorem dX7_trim_12 : decode cX7_trim 12 = .ok (.if_icmp .le 5, 3) := by decide +kernel
theorem dX7_trim_15 : decode cX7_trim 15 = .ok (.iconst 0, 1) := by decide +kernel
theorem dX7_trim_16 : decode cX7_trim 16 = .ok (.ireturn, 1) := by decide +kernel
theorem dX7_trim_17 : decode cX7_trim 17 = .ok (.aload_n 0, 1) := by decide +kernel
theorem dX7_trim_18 : decode cX7_trim 18 = .ok (.getfield 21, 3) := by decide +kernel
theorem dX7_trim_21 : decode cX7_trim 21 = .ok (.iload_n 1, 1) := by decide +kernel
theorem dX7_trim_22 : decode cX7_trim 22 = .ok (.putfield 72, 3) := by decide +kernel
theorem dX7_trim_25 : decode cX7_trim 25 = .ok (.iconst 1, 1) := by decide +kernel
theorem dX7_trim_26 : decode cX7_trim 26 = .ok (.ireturn, 1) := by decide +kernel
theorem dX7_check_0 : decode cX7_check 0 = .ok (.new 77, 3) := by decide +kernel
theorem dX7_check_3 : decode cX7_check 3 = .ok (.dup, 1) := by decide +kernel
theorem dX7_check_4 : decode cX7_check 4 = .ok (.iload_n 2, 1) := by decide +kernel
theorem dX7_check_5 : decode cX7_check 5 = .ok (.iload_n 3, 1) := by decide +kernel
theorem dX7_check_6 : decode cX7_check 6 = .ok (.iconst 0, 1) := by decide +kernel
theorem dX7_check_7 : decode cX7_check 7 = .ok (.invokespecial 79, 3) := by decide +kernel
theorem dX7_check_10 : decode cX7_check 10 = .ok (.astore 4, 2) := by decide +kernel
theorem dX7_check_12 : decode cX7_check 12 = .ok (.iload_n 2, 1) := by decide +kernel
theorem dX7_check_13 : decode cX7_check 13 = .ok (.iload_n 3, 1) := by decide +kernel
theorem dX7_check_14 : decode cX7_check 14 = .ok (.if_icmp .gt 16, 3) := by decide +kernel
theorem dX7_check_17 : decode cX7_check 17 = .ok (.aload_n 0, 1) := by decide +kernel
theorem dX7_check_18 : decode cX7_check 18 = .ok (.getfield 30, 3) := by decide +kernel
theorem dX7_check_21 : decode cX7_check 21 = .ok (.iload_n 1, 1) := by decide +kernel
theorem dX7_check_22 : decode cX7_check 22 = .ok (.aload 4, 2) := by decide +kernel
theorem dX7_check_24 : decode cX7_check 24 = .ok (.invokevirtual 100, 3) := by decide +kernel
theorem dX7_check_27 : decode cX7_check 27 = .ok (.ifCond .ne 5, 3) := by decide +kernel
theorem dX7_check_30 : decode cX7_check 30 = .ok (.iconst (-1), 1) := by decide +kernel
theorem dX7_check_31 : decode cX7_check 31 = .ok (.ireturn, 1) := by decide +kernel
theorem dX7_check_32 : decode cX7_check 32 = .ok (.aload_n 0, 1) := by decide +kernel
theorem dX7_check_33 : decode cX7_check 33 = .ok (.getfield 30, 3) := by decide +kernel
theorem dX7_check_36 : decode cX7_check 36 = .ok (.aload 4, 2) := by decide +kernel
theorem dX7_check_38 : decode cX7_check 38 = .ok (.aload_n 0, 1) := by decide +kernel
theorem dX7_check_39 : decode cX7_check 39 = .ok (.getfield 37, 3) := by decide +kernel
theorem dX7_check_42 : decode cX7_check 42 = .ok (.invokevirtual 104, 3) := by decide +kernel
theorem dX7_check_45 : decode cX7_check 45 = .ok (.aload_n 0, 1) := by decide +kernel
theorem dX7_check_46 : decode cX7_check 46 = .ok (.getfield 37, 3) := by decide +kernel
theorem dX7_check_49 : decode cX7_check 49 = .ok (.getfield 108, 3) := by decide +kernel
theorem dX7_check_52 : decode cX7_check 52 = .ok (.ireturn, 1) := by decide +kernel
theorem dX7_count_0 : decode cX7_count 0 = .ok (.new 77, 3) := by decide +kernel
theorem dX7_count_3 : decode cX7_count 3 = .ok (.dup, 1) := by decide +kernel
theorem dX7_count_4 : decode cX7_count 4 = .ok (.iload_n 2, 1) := by decide +kernel
theorem dX7_count_5 : decode cX7_count 5 = .ok (.iload_n 3, 1) := by decide +kernel
theorem dX7_count_6 : decode cX7_count 6 = .ok (.iconst 1, 1) := by decide +kernel
theorem dX7_count_7 : decode cX7_count 7 = .ok (.invokespecial 79, 3) := by decide +kernel
theorem dX7_count_10 : decode cX7_count 10 = .ok (.astore 4, 2) := by decide +kernel
theorem dX7_count_12 : decode cX7_count 12 = .ok (.iload_n 2, 1) := by decide +kernel
theorem dX7_count_13 : decode cX7_count 13 = .ok (.iload_n 3, 1) := by decide +kernel
theorem dX7_count_14 : decode cX7_count 14 = .ok (.if_icmp .gt 16, 3) := by decide +kernel
theorem dX7_count_17 : decode cX7_count 17 = .ok (.aload_n 0, 1) := by decide +kernel
theorem dX7_count_18 : decode cX7_count 18 = .ok (.getfield 30, 3) := by decide +kernel
theorem dX7_count_21 : decode cX7_count 21 = .ok (.iload_n 1, 1) := by decide +kernel
theorem dX7_count_22 : decode cX7_count 22 = .ok (.aload 4, 2) := by decide +kernel
theorem dX7_count_24 : decode cX7_count 24 = .ok (.invokevirtual 100, 3) := by decide +kernel
theorem dX7_count_27 : decode cX7_count 27 = .ok (.ifCond .ne 5, 3) := by decide +kernel
theorem dX7_count_30 : decode cX7_count 30 = .ok (.iconst (-1), 1) := by decide +kernel
theorem dX7_count_31 : decode cX7_count 31 = .ok (.ireturn, 1) := by decide +kernel
theorem dX7_count_32 : decode cX7_count 32 = .ok (.aload_n 0, 1) := by decide +kernel
theorem dX7_count_33 : decode cX7_count 33 = .ok (.getfield 30, 3) := by decide +kernel
theorem dX7_count_36 : decode cX7_count 36 = .ok (.aload 4, 2) := by decide +kernel
theorem dX7_count_38 : decode cX7_count 38 = .ok (.invokevirtual 109, 3) := by decide +kernel
theorem dX7_count_41 : decode cX7_count 41 = .ok (.ireturn, 1) := by decide +kernel
theorem dX7_row_0 : decode cX7_row 0 = .ok (.iload_n 1, 1) := by decide +kernel
theorem dX7_row_1 : decode cX7_row 1 = .ok (.ifCond .lt 14, 3) := by decide +kernel
theorem dX7_row_4 : decode cX7_row 4 = .ok (.iload_n 1, 1) := by decide +kernel
theorem dX7_row_5 : decode cX7_row 5 = .ok (.aload_n 0, 1) := by decide +kernel
theorem dX7_row_6 : decode cX7_row 6 = .ok (.getfield 37, 3) := by decide +kernel
theorem dX7_row_9 : decode cX7_row 9 = .ok (.getfield 108, 3) := by decide +kernel
theorem dX7_row_12 : decode cX7_row 12 = .ok (.if_icmp .lt 5, 3) := by decide +kernel
theorem dX7_row_15 : decode cX7_row 15 = .ok (.iconst 0, 1) := by decide +kernel
theorem dX7_row_16 : decode cX7_row 16 = .ok (.ireturn, 1) := by decide +kernel
theorem dX7_row_17 : decode cX7_row 17 = .ok (.iload_n 2, 1) := by decide +kernel
theorem dX7_row_18 : decode cX7_row 18 = .ok (.lookupswitch 46 #[(0, 26), (1, 36)], 26) := by decide +kernel
theorem dX7_row_44 : decode cX7_row 44 = .ok (.aload_n 0, 1) := by decide +kernel
theorem dX7_row_45 : decode cX7_row 45 = .ok (.getfield 37, 3) := by decide +kernel
theorem dX7_row_48 : decode cX7_row 48 = .ok (.getfield 113, 3) := by decide +kernel
theorem dX7_row_51 : decode cX7_row 51 = .ok (.iload_n 1, 1) := by decide +kernel
theorem dX7_row_52 : decode cX7_row 52 = .ok (.iaload, 1) := by decide +kernel
theorem dX7_row_53 : decode cX7_row 53 = .ok (.ireturn, 1) := by decide +kernel
theorem dX7_row_54 : decode cX7_row 54 = .ok (.aload_n 0, 1) := by decide +kernel
theorem dX7_row_55 : decode cX7_row 55 = .ok (.getfield 37, 3) := by decide +kernel
theorem dX7_row_58 : decode cX7_row 58 = .ok (.getfield 116, 3) := by decide +kernel
theorem dX7_row_61 : decode cX7_row 61 = .ok (.iload_n 1, 1) := by decide +kernel
theorem dX7_row_62 : decode cX7_row 62 = .ok (.iaload, 1) := by decide +kernel
theorem dX7_row_63 : decode cX7_row 63 = .ok (.ireturn, 1) := by decide +kernel
theorem dX7_row_64 : decode cX7_row 64 = .ok (.iconst 0, 1) := by decide +kernel
theorem dX7_row_65 : decode cX7_row 65 = .ok (.ireturn, 1) := by decide +kernel
theorem dX7_digest_0 : decode cX7_digest 0 = .ok (.iload_n 1, 1) := by decide +kernel
theorem dX7_digest_1 : decode cX7_digest 1 = .ok (.iload_n 2, 1) := by decide +kernel
theorem dX7_digest_2 : decode cX7_digest 2 = .ok (.invokestatic 119, 3) := by decide +kernel
theorem dX7_digest_5 : decode cX7_digest 5 = .ok (.iload_n 3, 1) := by decide +kernel
theorem dX7_digest_6 : decode cX7_digest 6 = .ok (.invokestatic 119, 3) := by decide +kernel
theorem dX7_digest_9 : decode cX7_digest 9 = .ok (.iload 4, 2) := by decide +kernel
theorem dX7_digest_11 : decode cX7_digest 11 = .ok (.invokestatic 119, 3) := by decide +kernel
theorem dX7_digest_14 : decode cX7_digest 14 = .ok (.ireturn, 1) := by decide +kernel
theorem dX7_mix_0 : decode cX7_mix 0 = .ok (.iload_n 0, 1) := by decide +kernel
theorem dX7_mix_1 : decode cX7_mix 1 = .ok (.iload_n 1, 1) := by decide +kernel
theorem dX7_mix_2 : decode cX7_mix 2 = .ok (.ixor, 1) := by decide +kernel
theorem dX7_mix_3 : decode cX7_mix 3 = .ok (.ldc 122, 2) := by decide +kernel
theorem dX7_mix_5 : decode cX7_mix 5 = .ok (.imul, 1) := by decide +kernel
theorem dX7_mix_6 : decode cX7_mix 6 = .ok (.istore_n 2, 1) := by decide +kernel
theorem dX7_mix_7 : decode cX7_mix 7 = .ok (.iload_n 2, 1) := by decide +kernel
theorem dX7_mix_8 : decode cX7_mix 8 = .ok (.iload_n 2, 1) := by decide +kernel
theorem dX7_mix_9 : decode cX7_mix 9 = .ok (.bipush 15, 2) := by decide +kernel
theorem dX7_mix_11 : decode cX7_mix 11 = .ok (.iushr, 1) := by decide +kernel
theorem dX7_mix_12 : decode cX7_mix 12 = .ok (.ixor, 1) := by decide +kernel
theorem dX7_mix_13 : decode cX7_mix 13 = .ok (.ireturn, 1) := by decide +kernel
theorem dX8_init_0 : decode cX8_init 0 = .ok (.aload_n 0, 1) := by decide +kernel
theorem dX8_init_1 : decode cX8_init 1 = .ok (.invokespecial 1, 3) := by decide +kernel
theorem dX8_init_4 : decode cX8_init 4 = .ok (.aload_n 0, 1) := by decide +kernel
theorem dX8_init_5 : decode cX8_init 5 = .ok (.bipush 61, 2) := by decide +kernel
theorem dX8_init_7 : decode cX8_init 7 = .ok (.newarray .int, 2) := by decide +kernel
theorem dX8_init_9 : decode cX8_init 9 = .ok (.putfield 7, 3) := by decide +kernel
theorem dX8_init_12 : decode cX8_init 12 = .ok (.aload_n 0, 1) := by decide +kernel
theorem dX8_init_13 : decode cX8_init 13 = .ok (.bipush 61, 2) := by decide +kernel
theorem dX8_init_15 : decode cX8_init 15 = .ok (.newarray .int, 2) := by decide +kernel
theorem dX8_init_17 : decode cX8_init 17 = .ok (.putfield 13, 3) := by decide +kernel
theorem dX8_init_20 : decode cX8_init 20 = .ok (.aload_n 0, 1) := by decide +kernel
theorem dX8_init_21 : decode cX8_init 21 = .ok (.iconst 1, 1) := by decide +kernel
theorem dX8_init_22 : decode cX8_init 22 = .ok (.putfield 16, 3) := by decide +kernel
theorem dX8_init_25 : decode cX8_init 25 = .ok (.aload_n 0, 1) := by decide +kernel
theorem dX8_init_26 : decode cX8_init 26 = .ok (.sipush 512, 3) := by decide +kernel
theorem dX8_init_29 : decode cX8_init 29 = .ok (.newarray .int, 2) := by decide +kernel
theorem dX8_init_31 : decode cX8_init 31 = .ok (.putfield 20, 3) := by decide +kernel
theorem dX8_init_34 : decode cX8_init 34 = .ok (.aload_n 0, 1) := by decide +kernel
theorem dX8_init_35 : decode cX8_init 35 = .ok (.bipush 8, 2) := by decide +kernel
theorem dX8_init_37 : decode cX8_init 37 = .ok (.newarray .int, 2) := by decide +kernel
theorem dX8_init_39 : decode cX8_init 39 = .ok (.putfield 23, 3) := by decide +kernel
theorem dX8_init_42 : decode cX8_init 42 = .ok (.aload_n 0, 1) := by decide +kernel
theorem dX8_init_43 : decode cX8_init 43 = .ok (.sipush 512, 3) := by decide +kernel
theorem dX8_init_46 : decode cX8_init 46 = .ok (.newarray .int, 2) := by decide +kernel
theorem dX8_init_48 : decode cX8_init 48 = .ok (.putfield 26, 3) := by decide +kernel
theorem dX8_init_51 : decode cX8_init 51 = .ok (.aload_n 0, 1) := by decide +kernel
theorem dX8_init_52 : decode cX8_init 52 = .ok (.sipush 512, 3) := by decide +kernel
theorem dX8_init_55 : decode cX8_init 55 = .ok (.newarray .int, 2) := by decide +kernel
theorem dX8_init_57 : decode cX8_init 57 = .ok (.putfield 29, 3) := by decide +kernel
theorem dX8_init_60 : decode cX8_init 60 = .ok (.aload_n 0, 1) := by decide +kernel
theorem dX8_init_61 : decode cX8_init 61 = .ok (.sipush 512, 3) := by decide +kernel
theorem dX8_init_64 : decode cX8_init 64 = .ok (.newarray .int, 2) := by decide +kernel
theorem dX8_init_66 : decode cX8_init 66 = .ok (.putfield 32, 3) := by decide +kernel
theorem dX8_init_69 : decode cX8_init 69 = .ok (.aload_n 0, 1) := by decide +kernel
theorem dX8_init_70 : decode cX8_init 70 = .ok (.sipush 600, 3) := by decide +kernel
theorem dX8_init_73 : decode cX8_init 73 = .ok (.newarray .int, 2) := by decide +kernel
theorem dX8_init_75 : decode cX8_init 75 = .ok (.putfield 35, 3) := by decide +kernel
theorem dX8_init_78 : decode cX8_init 78 = .ok (.aload_n 0, 1) := by decide +kernel
theorem dX8_init_79 : decode cX8_init 79 = .ok (.bipush 60, 2) := by decide +kernel
theorem dX8_init_81 : decode cX8_init 81 = .ok (.newarray .int, 2) := by decide +kernel
theorem dX8_init_83 : decode cX8_init 83 = .ok (.putfield 38, 3) := by decide +kernel
theorem dX8_init_86 : decode cX8_init 86 = .ok (.aload_n 0, 1) := by decide +kernel
theorem dX8_init_87 : decode cX8_init 87 = .ok (.bipush 60, 2) := by decide +kernel
theorem dX8_init_89 : decode cX8_init 89 = .ok (.newarray .long, 2) := by decide +kernel
theorem dX8_init_91 : decode cX8_init 91 = .ok (.putfield 41, 3) := by decide +kernel
theorem dX8_init_94 : decode cX8_init 94 = .ok (.aload_n 0, 1) := by decide +kernel
theorem dX8_init_95 : decode cX8_init 95 = .ok (.bipush 60, 2) := by decide +kernel
theorem dX8_init_97 : decode cX8_init 97 = .ok (.newarray .long, 2) := by decide +kernel
theorem dX8_init_99 : decode cX8_init 99 = .ok (.putfield 45, 3) := by decide +kernel
theorem dX8_init_102 : decode cX8_init 102 = .ok (.aload_n 0, 1) := by decide +kernel
theorem dX8_init_103 : decode cX8_init 103 = .ok (.sipush 300, 3) := by decide +kernel
theorem dX8_init_106 : decode cX8_init 106 = .ok (.newarray .int, 2) := by decide +kernel
theorem dX8_init_108 : decode cX8_init 108 = .ok (.putfield 48, 3) := by decide +kernel
theorem dX8_init_111 : decode cX8_init 111 = .ok (.aload_n 0, 1) := by decide +kernel
theorem dX8_init_112 : decode cX8_init 112 = .ok (.sipush 300, 3) := by decide +kernel
theorem dX8_init_115 : decode cX8_init 115 = .ok (.newarray .int, 2) := by decide +kernel
theorem dX8_init_117 : decode cX8_init 117 = .ok (.putfield 51, 3) := by decide +kernel
theorem dX8_init_120 : decode cX8_init 120 = .ok (.aload_n 0, 1) := by decide +kernel
theorem dX8_init_121 : decode cX8_init 121 = .ok (.sipush 300, 3) := by decide +kernel
theorem dX8_init_124 : decode cX8_init 124 = .ok (.newarray .int, 2) := by decide +kernel
theorem dX8_init_126 : decode cX8_init 126 = .ok (.putfield 54, 3) := by decide +kernel
theorem dX8_init_129 : decode cX8_init 129 = .ok (.aload_n 0, 1) := by decide +kernel
theorem dX8_init_130 : decode cX8_init 130 = .ok (.sipush 300, 3) := by decide +kernel
theorem dX8_init_133 : decode cX8_init 133 = .ok (.newarray .int, 2) := by decide +kernel
theorem dX8_init_135 : decode cX8_init 135 = .ok (.putfield 57, 3) := by decide +kernel
theorem dX8_init_138 : decode cX8_init 138 = .ok (.aload_n 0, 1) := by decide +kernel
theorem dX8_init_139 : decode cX8_init 139 = .ok (.sipush 300, 3) := by decide +kernel
theorem dX8_init_142 : decode cX8_init 142 = .ok (.newarray .int, 2) := by decide +kernel
theorem dX8_init_144 : decode cX8_init 144 = .ok (.putfield 60, 3) := by decide +kernel
theorem dX8_init_147 : decode cX8_init 147 = .ok (.aload_n 0, 1) := by decide +kernel
theorem dX8_init_148 : decode cX8_init 148 = .ok (.sipush 300, 3) := by decide +kernel
theorem dX8_init_151 : decode cX8_init 151 = .ok (.newarray .int, 2) := by decide +kernel
theorem dX8_init_153 : decode cX8_init 153 = .ok (.putfield 63, 3) := by decide +kernel
theorem dX8_init_156 : decode cX8_init 156 = .ok (.aload_n 0, 1) := by decide +kernel
theorem dX8_init_157 : decode cX8_init 157 = .ok (.sipush 300, 3) := by decide +kernel
theorem dX8_init_160 : decode cX8_init 160 = .ok (.newarray .int, 2) := by decide +kernel
theorem dX8_init_162 : decode cX8_init 162 = .ok (.putfield 66, 3) := by decide +kernel
theorem dX8_init_165 : decode cX8_init 165 = .ok (.aload_n 0, 1) := by decide +kernel
theorem dX8_init_166 : decode cX8_init 166 = .ok (.sipush 300, 3) := by decide +kernel
theorem dX8_init_169 : decode cX8_init 169 = .ok (.newarray .long, 2) := by decide +kernel
theorem dX8_init_171 : decode cX8_init 171 = .ok (.putfield 69, 3) := by decide +kernel
theorem dX8_init_174 : decode cX8_init 174 = .ok (.aload_n 0, 1) := by decide +kernel
theorem dX8_init_175 : decode cX8_init 175 = .ok (.sipush 300, 3) := by decide +kernel
theorem dX8_init_178 : decode cX8_init 178 = .ok (.newarray .long, 2) := by decide +kernel
theorem dX8_init_180 : decode cX8_init 180 = .ok (.putfield 72, 3) := by decide +kernel
theorem dX8_init_183 : decode cX8_init 183 = .ok (.aload_n 0, 1) := by decide +kernel
theorem dX8_init_184 : decode cX8_init 184 = .ok (.sipush 300, 3) := by decide +kernel
theorem dX8_init_187 : decode cX8_init 187 = .ok (.newarray .int, 2) := by decide +kernel
theorem dX8_init_189 : decode cX8_init 189 = .ok (.putfield 75, 3) := by decide +kernel
theorem dX8_init_192 : decode cX8_init 192 = .ok (.aload_n 0, 1) := by decide +kernel
theorem dX8_init_193 : decode cX8_init 193 = .ok (.sipush 300, 3) := by decide +kernel
theorem dX8_init_196 : decode cX8_init 196 = .ok (.newarray .int, 2) := by decide +kernel
theorem dX8_init_198 : decode cX8_init 198 = .ok (.putfield 78, 3) := by decide +kernel
theorem dX8_init_201 : decode cX8_init 201 = .ok (.aload_n 0, 1) := by decide +kernel
theorem dX8_init_202 : decode cX8_init 202 = .ok (.iload_n 1, 1) := by decide +kernel
theorem dX8_init_203 : decode cX8_init 203 = .ok (.iconst 3, 1) := by decide +kernel
theorem dX8_init_204 : decode cX8_init 204 = .ok (.if_icmp .lt 12, 3) := by decide +kernel
theorem dX8_init_207 : decode cX8_init 207 = .ok (.iload_n 1, 1) := by decide +kernel
theorem dX8_init_208 : decode cX8_init 208 = .ok (.iconst 5, 1) := by decide +kernel
theorem dX8_init_209 : decode cX8_init 209 = .ok (.if_icmp .gt 7, 3) := by decide +kernel
theorem dX8_init_212 : decode cX8_init 212 = .ok (.iload_n 1, 1) := by decide +kernel
theorem dX8_init_213 : decode cX8_init 213 = .ok (.goto 4, 3) := by decide +kernel
theorem dX8_init_216 : decode cX8_init 216 = .ok (.iconst 4, 1) := by decide +kernel
theorem dX8_init_217 : decode cX8_init 217 = .ok (.putfield 81, 3) := by decide +kernel
theorem dX8_init_220 : decode cX8_init 220 = .ok (.aload_n 0, 1) := by decide +kernel
theorem dX8_init_221 : decode cX8_init 221 = .ok (.aload_n 0, 1) := by decide +kernel
theorem dX8_init_222 : decode cX8_init 222 = .ok (.getfield 81, 3) := by decide +kernel
theorem dX8_init_225 : decode cX8_init 225 = .ok (.iconst 1, 1) := by decide +kernel
theorem dX8_init_226 : decode cX8_init 226 = .ok (.iadd, 1) := by decide +kernel
theorem dX8_init_227 : decode cX8_init 227 = .ok (.iconst 2, 1) := by decide +kernel
theorem dX8_init_228 : decode cX8_init 228 = .ok (.idiv, 1) := by decide +kernel
theorem dX8_init_229 : decode cX8_init 229 = .ok (.putfield 84, 3) := by decide +kernel
theorem dX8_init_232 : decode cX8_init 232 = .ok (.aload_n 0, 1) := by decide +kernel
theorem dX8_init_233 : decode cX8_init 233 = .ok (.getfield 23, 3) := by decide +kernel
theorem dX8_init_236 : decode cX8_init 236 = .ok (.iconst 0, 1) := by decide +kernel
theorem dX8_init_237 : decode cX8_init 237 = .ok (.iconst 1, 1) := by decide +kernel
theorem dX8_init_238 : decode cX8_init 238 = .ok (.iastore, 1) := by decide +kernel
theorem dX8_init_239 : decode cX8_init 239 = .ok (.aload_n 0, 1) := by decide +kernel
theorem dX8_init_240 : decode cX8_init 240 = .ok (.invokevirtual 87, 3) := by decide +kernel
theorem dX8_init_243 : decode cX8_init 243 = .ok (.return_, 1) := by decide +kernel
theorem dX8_upTo_0 : decode cX8_upTo 0 = .ok (.iconst 0, 1) := by decide +kernel
theorem dX8_upTo_1 : decode cX8_upTo 1 = .ok (.istore_n 2, 1) := by decide +kernel
theorem dX8_upTo_2 : decode cX8_upTo 2 = .ok (.iload_n 2, 1) := by decide +kernel
theorem dX8_upTo_3 : decode cX8_upTo 3 = .ok (.aload_n 0, 1) := by decide +kernel
theorem dX8_upTo_4 : decode cX8_upTo 4 = .ok (.getfield 90, 3) := by decide +kernel
theorem dX8_upTo_7 : decode cX8_upTo 7 = .ok (.if_icmp .ge 19, 3) := by decide +kernel
theorem dX8_upTo_10 : decode cX8_upTo 10 = .ok (.aload_n 0, 1) := by decide +kernel
theorem dX8_upTo_11 : decode cX8_upTo 11 = .ok (.getfield 7, 3) := by decide +kernel
theorem dX8_upTo_14 : decode cX8_upTo 14 = .ok (.iload_n 2, 1) := by decide +kernel
theorem dX8_upTo_15 : decode cX8_upTo 15 = .ok (.iaload, 1) := by decide +kernel
theorem dX8_upTo_16 : decode cX8_upTo 16 = .ok (.iload_n 1, 1) := by decide +kernel
theorem dX8_upTo_17 : decode cX8_upTo 17 = .ok (.if_icmp .gt 9, 3) := by decide +kernel
theorem dX8_upTo_20 : decode cX8_upTo 20 = .ok (.iinc 2 1, 3) := by decide +kernel
theorem dX8_upTo_23 : decode cX8_upTo 23 = .ok (.goto (-21), 3) := by decide +kernel
theorem dX8_upTo_26 : decode cX8_upTo 26 = .ok (.iload_n 2, 1) := by decide +kernel
theorem dX8_upTo_27 : decode cX8_upTo 27 = .ok (.ireturn, 1) := by decide +kernel
theorem dX8_find_0 : decode cX8_find 0 = .ok (.aload_n 0, 1) := by decide +kernel
theorem dX8_find_1 : decode cX8_find 1 = .ok (.iload_n 1, 1) := by decide +kernel
theorem dX8_find_2 : decode cX8_find 2 = .ok (.invokevirtual 93, 3) := by decide +kernel
theorem dX8_find_5 : decode cX8_find 5 = .ok (.istore_n 2, 1) := by decide +kernel
theorem dX8_find_6 : decode cX8_find 6 = .ok (.iload_n 2, 1) := by decide +kernel
theorem dX8_find_7 : decode cX8_find 7 = .ok (.ifCond .le 21, 3) := by decide +kernel
theorem dX8_find_10 : decode cX8_find 10 = .ok (.aload_n 0, 1) := by decide +kernel
theorem dX8_find_11 : decode cX8_find 11 = .ok (.getfield 7, 3) := by decide +kernel
theorem dX8_find_14 : decode cX8_find 14 = .ok (.iload_n 2, 1) := by decide +kernel
theorem dX8_find_15 : decode cX8_find 15 = .ok (.iconst 1, 1) := by decide +kernel
theorem dX8_find_16 : decode cX8_find 16 = .ok (.isub, 1) := by decide +kernel
theorem dX8_find_17 : decode cX8_find 17 = .ok (.iaload, 1) := by decide +kernel
theorem dX8_find_18 : decode cX8_find 18 = .ok (.iload_n 1, 1) := by decide +kernel
theorem dX8_find_19 : decode cX8_find 19 = .ok (.if_icmp .ne 9, 3) := by decide +kernel
theorem dX8_find_22 : decode cX8_find 22 = .ok (.iload_n 2, 1) := by decide +kernel
theorem dX8_find_23 : decode cX8_find 23 = .ok (.iconst 1, 1) := by decide +kernel
theorem dX8_find_24 : decode cX8_find 24 = .ok (.isub, 1) := by decide +kernel
theorem dX8_find_25 : decode cX8_find 25 = .ok (.goto 4, 3) := by decide +kernel
theorem dX8_find_28 : decode cX8_find 28 = .ok (.iconst (-1), 1) := by decide +kernel
theorem dX8_find_29 : decode cX8_find 29 = .ok (.ireturn, 1) := by decide +kernel
theorem dX8_holder_0 : decode cX8_holder 0 = .ok (.iconst 0, 1) := by decide +kernel
theorem dX8_holder_1 : decode cX8_holder 1 = .ok (.istore_n 3, 1) := by decide +kernel
theorem dX8_holder_2 : decode cX8_holder 2 = .ok (.iload_n 2, 1) := by decide +kernel
theorem dX8_holder_3 : decode cX8_holder 3 = .ok (.istore 4, 2) := by decide +kernel
theorem dX8_holder_5 : decode cX8_holder 5 = .ok (.iload_n 3, 1) := by decide +kernel
theorem dX8_holder_6 : decode cX8_holder 6 = .ok (.aload_n 0, 1) := by decide +kernel
theorem dX8_holder_7 : decode cX8_holder 7 = .ok (.getfield 23, 3) := by decide +kernel
theorem dX8_holder_10 : decode cX8_holder 10 = .ok (.iload_n 1, 1) := by decide +kernel
theorem dX8_holder_11 : decode cX8_holder 11 = .ok (.iaload, 1) := by decide +kernel
theorem dX8_holder_12 : decode cX8_holder 12 = .ok (.iconst 1, 1) := by decide +kernel
theorem dX8_holder_13 : decode cX8_holder 13 = .ok (.isub, 1) := by decide +kernel
theorem dX8_holder_14 : decode cX8_holder 14 = .ok (.if_icmp .ge 41, 3) := by decide +kernel
theorem dX8_holder_17 : decode cX8_holder 17 = .ok (.iload 4, 2) := by decide +kernel
theorem dX8_holder_19 : decode cX8_holder 19 = .ok (.aload_n 0, 1) := by decide +kernel
theorem dX8_holder_20 : decode cX8_holder 20 = .ok (.getfield 20, 3) := by decide +kernel
theorem dX8_holder_23 : decode cX8_holder 23 = .ok (.bipush 64, 2) := by decide +kernel
theorem dX8_holder_25 : decode cX8_holder 25 = .ok (.iload_n 1, 1) := by decide +kernel
theorem dX8_holder_26 : decode cX8_holder 26 = .ok (.imul, 1) := by decide +kernel
theorem dX8_holder_27 : decode cX8_holder 27 = .ok (.iload_n 3, 1) := by decide +kernel
theorem dX8_holder_28 : decode cX8_holder 28 = .ok (.iadd, 1) := by decide +kernel
theorem dX8_holder_29 : decode cX8_holder 29 = .ok (.iaload, 1) := by decide +kernel
theorem dX8_holder_30 : decode cX8_holder 30 = .ok (.if_icmp .lt 25, 3) := by decide +kernel
theorem dX8_holder_33 : decode cX8_holder 33 = .ok (.iload 4, 2) := by decide +kernel
theorem dX8_holder_35 : decode cX8_holder 35 = .ok (.aload_n 0, 1) := by decide +kernel
theorem dX8_holder_36 : decode cX8_holder 36 = .ok (.getfield 20, 3) := by decide +kernel
theorem dX8_holder_39 : decode cX8_holder 39 = .ok (.bipush 64, 2) := by decide +kernel
theorem dX8_holder_41 : decode cX8_holder 41 = .ok (.iload_n 1, 1) := by decide +kernel
theorem dX8_holder_42 : decode cX8_holder 42 = .ok (.imul, 1) := by decide +kernel
theorem dX8_holder_43 : decode cX8_holder 43 = .ok (.iload_n 3, 1) := by decide +kernel
theorem dX8_holder_44 : decode cX8_holder 44 = .ok (.iadd, 1) := by decide +kernel
theorem dX8_holder_45 : decode cX8_holder 45 = .ok (.iaload, 1) := by decide +kernel
theorem dX8_holder_46 : decode cX8_holder 46 = .ok (.isub, 1) := by decide +kernel
theorem dX8_holder_47 : decode cX8_holder 47 = .ok (.istore 4, 2) := by decide +kernel
theorem dX8_holder_49 : decode cX8_holder 49 = .ok (.iinc 3 1, 3) := by decide +kernel
theorem dX8_holder_52 : decode cX8_holder 52 = .ok (.goto (-47), 3) := by decide +kernel
theorem dX8_holder_55 : decode cX8_holder 55 = .ok (.iload_n 3, 1) := by decide +kernel
theorem dX8_holder_56 : decode cX8_holder 56 = .ok (.ireturn, 1) := by decide +kernel
theorem dX8_placeIn_0 : decode cX8_placeIn 0 = .ok (.iload_n 2, 1) := by decide +kernel
theorem dX8_placeIn_1 : decode cX8_placeIn 1 = .ok (.istore 4, 2) := by decide +kernel
theorem dX8_placeIn_3 : decode cX8_placeIn 3 = .ok (.iconst 0, 1) := by decide +kernel
theorem dX8_placeIn_4 : decode cX8_placeIn 4 = .ok (.istore 5, 2) := by decide +kernel
theorem dX8_placeIn_6 : decode cX8_placeIn 6 = .ok (.iload 5, 2) := by decide +kernel
theorem dX8_placeIn_8 : decode cX8_placeIn 8 = .ok (.iload_n 3, 1) := by decide +kernel
theorem dX8_placeIn_9 : decode cX8_placeIn 9 = .ok (.if_icmp .ge 28, 3) := by decide +kernel
theorem dX8_placeIn_12 : decode cX8_placeIn 12 = .ok (.iload 4, 2) := by decide +kernel
theorem dX8_placeIn_14 : decode cX8_placeIn 14 = .ok (.aload_n 0, 1) := by decide +kernel
theorem dX8_placeIn_15 : decode cX8_placeIn 15 = .ok (.getfield 20, 3) := by decide +kernel
theorem dX8_placeIn_18 : decode cX8_placeIn 18 = .ok (.bipush 64, 2) := by decide +kernel
theorem dX8_placeIn_20 : decode cX8_placeIn 20 = .ok (.iload_n 1, 1) := by decide +kernel
theorem dX8_placeIn_21 : decode cX8_placeIn 21 = .ok (.iconst 1, 1) := by decide +kernel
theorem dX8_placeIn_22 : decode cX8_placeIn 22 = .ok (.iadd, 1) := by decide +kernel
theorem dX8_placeIn_23 : decode cX8_placeIn 23 = .ok (.imul, 1) := by decide +kernel
theorem dX8_placeIn_24 : decode cX8_placeIn 24 = .ok (.iload 5, 2) := by decide +kernel
theorem dX8_placeIn_26 : decode cX8_placeIn 26 = .ok (.iadd, 1) := by decide +kernel
theorem dX8_placeIn_27 : decode cX8_placeIn 27 = .ok (.iaload, 1) := by decide +kernel
theorem dX8_placeIn_28 : decode cX8_placeIn 28 = .ok (.isub, 1) := by decide +kernel
theorem dX8_placeIn_29 : decode cX8_placeIn 29 = .ok (.istore 4, 2) := by decide +kernel
theorem dX8_placeIn_31 : decode cX8_placeIn 31 = .ok (.iinc 5 1, 3) := by decide +kernel
theorem dX8_placeIn_34 : decode cX8_placeIn 34 = .ok (.goto (-28), 3) := by decide +kernel
theorem dX8_placeIn_37 : decode cX8_placeIn 37 = .ok (.iload 4, 2) := by decide +kernel
theorem dX8_placeIn_39 : decode cX8_placeIn 39 = .ok (.ireturn, 1) := by decide +kernel
theorem dX8_insertNode_0 : decode cX8_insertNode 0 = .ok (.aload_n 0, 1) := by decide +kernel
theorem dX8_insertNode_1 : decode cX8_insertNode 1 = .ok (.getfield 23, 3) := by decide +kernel
theorem dX8_insertNode_4 : decode cX8_insertNode 4 = .ok (.iload_n 1, 1) := by decide +kernel
theorem dX8_insertNode_5 : decode cX8_insertNode 5 = .ok (.iaload, 1) := by decide +kernel
theorem dX8_insertNode_6 : decode cX8_insertNode 6 = .ok (.istore 4, 2) := by decide +kernel
theorem dX8_insertNode_8 : decode cX8_insertNode 8 = .ok (.iload 4, 2) := by decide +kernel
theorem dX8_insertNode_10 : decode cX8_insertNode 10 = .ok (.iload_n 2, 1) := by decide +kernel
theorem dX8_insertNode_11 : decode cX8_insertNode 11 = .ok (.if_icmp .le 35, 3) := by decide +kernel
theorem dX8_insertNode_14 : decode cX8_insertNode 14 = .ok (.aload_n 0, 1) := by decide +kernel
theorem dX8_insertNode_15 : decode cX8_insertNode 15 = .ok (.getfield 20, 3) := by decide +kernel
theorem dX8_insertNode_18 : decode cX8_insertNode 18 = .ok (.bipush 64, 2) := by decide +kernel
theorem dX8_insertNode_20 : decode cX8_insertNode 20 = .ok (.iload_n 1, 1) := by decide +kernel
theorem dX8_insertNode_21 : decode cX8_insertNode 21 = .ok (.imul, 1) := by decide +kernel
theorem dX8_insertNode_22 : decode cX8_insertNode 22 = .ok (.iload 4, 2) := by decide +kernel
theorem dX8_insertNode_24 : decode cX8_insertNode 24 = .ok (.iadd, 1) := by decide +kernel
theorem dX8_insertNode_25 : decode cX8_insertNode 25 = .ok (.aload_n 0, 1) := by decide +kernel
theorem dX8_insertNode_26 : decode cX8_insertNode 26 = .ok (.getfield 20, 3) := by decide +kernel
theorem dX8_insertNode_29 : decode cX8_insertNode 29 = .ok (.bipush 64, 2) := by decide +kernel
theorem dX8_insertNode_31 : decode cX8_insertNode 31 = .ok (.iload_n 1, 1) := by decide +kernel
theorem dX8_insertNode_32 : decode cX8_insertNode 32 = .ok (.imul, 1) := by decide +kernel
theorem dX8_insertNode_33 : decode cX8_insertNode 33 = .ok (.iload 4, 2) := by decide +kernel
theorem dX8_insertNode_35 : decode cX8_insertNode 35 = .ok (.iadd, 1) := by decide +kernel
theorem dX8_insertNode_36 : decode cX8_insertNode 36 = .ok (.iconst 1, 1) := by decide +kernel
theorem dX8_insertNode_37 : decode cX8_insertNode 37 = .ok (.isub, 1) := by decide +kernel
theorem dX8_insertNode_38 : decode cX8_insertNode 38 = .ok (.iaload, 1) := by decide +kernel
theorem dX8_insertNode_39 : decode cX8_insertNode 39 = .ok (.iastore, 1) := by decide +kernel
theorem dX8_insertNode_40 : decode cX8_insertNode 40 = .ok (.iinc 4 (-1), 3) := by decide +kernel
theorem dX8_insertNode_43 : decode cX8_insertNode 43 = .ok (.goto (-35), 3) := by decide +kernel
theorem dX8_insertNode_46 : decode cX8_insertNode 46 = .ok (.aload_n 0, 1) := by decide +kernel
theorem dX8_insertNode_47 : decode cX8_insertNode 47 = .ok (.getfield 20, 3) := by decide +kernel
theorem dX8_insertNode_50 : decode cX8_insertNode 50 = .ok (.bipush 64, 2) := by decide +kernel
theorem dX8_insertNode_52 : decode cX8_insertNode 52 = .ok (.iload_n 1, 1) := by decide +kernel
theorem dX8_insertNode_53 : decode cX8_insertNode 53 = .ok (.imul, 1) := by decide +kernel
theorem dX8_insertNode_54 : decode cX8_insertNode 54 = .ok (.iload_n 2, 1) := by decide +kernel
theorem dX8_insertNode_55 : decode cX8_insertNode 55 = .ok (.iadd, 1) := by decide +kernel
theorem dX8_insertNode_56 : decode cX8_insertNode 56 = .ok (.iload_n 3, 1) := by decide +kernel
theorem dX8_insertNode_57 : decode cX8_insertNode 57 = .ok (.iastore, 1) := by decide +kernel
theorem dX8_insertNode_58 : decode cX8_insertNode 58 = .ok (.aload_n 0, 1) := by decide +kernel
theorem dX8_insertNode_59 : decode cX8_insertNode 59 = .ok (.getfield 23, 3) := by decide +kernel
theorem dX8_insertNode_62 : decode cX8_insertNode 62 = .ok (.iload_n 1, 1) := by decide +kernel
theorem dX8_insertNode_63 : decode cX8_insertNode 63 = .ok (.dup2, 1) := by decide +kernel
theorem dX8_insertNode_64 : decode cX8_insertNode 64 = .ok (.iaload, 1) := by decide +kernel
theorem dX8_insertNode_65 : decode cX8_insertNode 65 = .ok (.iconst 1, 1) := by decide +kernel
theorem dX8_insertNode_66 : decode cX8_insertNode 66 = .ok (.iadd, 1) := by decide +kernel
theorem dX8_insertNode_67 : decode cX8_insertNode 67 = .ok (.iastore, 1) := by decide +kernel
theorem dX8_insertNode_68 : decode cX8_insertNode 68 = .ok (.return_, 1) := by decide +kernel
theorem dX8_removeNode_0 : decode cX8_removeNode 0 = .ok (.aload_n 0, 1) := by decide +kernel
theorem dX8_removeNode_1 : decode cX8_removeNode 1 = .ok (.getfield 23, 3) := by decide +kernel
theorem dX8_removeNode_4 : decode cX8_removeNode 4 = .ok (.iload_n 1, 1) := by decide +kernel
theorem dX8_removeNode_5 : decode cX8_removeNode 5 = .ok (.dup2, 1) := by decide +kernel
theorem dX8_removeNode_6 : decode cX8_removeNode 6 = .ok (.iaload, 1) := by decide +kernel
theorem dX8_removeNode_7 : decode cX8_removeNode 7 = .ok (.iconst 1, 1) := by decide +kernel
theorem dX8_removeNode_8 : decode cX8_removeNode 8 = .ok (.isub, 1) := by decide +kernel
theorem dX8_removeNode_9 : decode cX8_removeNode 9 = .ok (.iastore, 1) := by decide +kernel
theorem dX8_removeNode_10 : decode cX8_removeNode 10 = .ok (.iload_n 2, 1) := by decide +kernel
theorem dX8_removeNode_11 : decode cX8_removeNode 11 = .ok (.istore_n 3, 1) := by decide +kernel
theorem dX8_removeNode_12 : decode cX8_removeNode 12 = .ok (.iload_n 3, 1) := by decide +kernel
theorem dX8_removeNode_13 : decode cX8_removeNode 13 = .ok (.aload_n 0, 1) := by decide +kernel
theorem dX8_removeNode_14 : decode cX8_removeNode 14 = .ok (.getfield 23, 3) := by decide +kernel
theorem dX8_removeNode_17 : decode cX8_removeNode 17 = .ok (.iload_n 1, 1) := by decide +kernel
theorem dX8_removeNode_18 : decode cX8_removeNode 18 = .ok (.iaload, 1) := by decide +kernel
theorem dX8_removeNode_19 : decode cX8_removeNode 19 = .ok (.if_icmp .ge 33, 3) := by decide +kernel
theorem dX8_removeNode_22 : decode cX8_removeNode 22 = .ok (.aload_n 0, 1) := by decide +kernel
theorem dX8_removeNode_23 : decode cX8_removeNode 23 = .ok (.getfield 20, 3) := by decide +kernel
theorem dX8_removeNode_26 : decode cX8_removeNode 26 = .ok (.bipush 64, 2) := by decide +kernel
theorem dX8_removeNode_28 : decode cX8_removeNode 28 = .ok (.iload_n 1, 1) := by decide +kernel
theorem dX8_removeNode_29 : decode cX8_removeNode 29 = .ok (.imul, 1) := by decide +kernel
theorem dX8_removeNode_30 : decode cX8_removeNode 30 = .ok (.iload_n 3, 1) := by decide +kernel
theorem dX8_removeNode_31 : decode cX8_removeNode 31 = .ok (.iadd, 1) := by decide +kernel
theorem dX8_removeNode_32 : decode cX8_removeNode 32 = .ok (.aload_n 0, 1) := by decide +kernel
theorem dX8_removeNode_33 : decode cX8_removeNode 33 = .ok (.getfield 20, 3) := by decide +kernel
theorem dX8_removeNode_36 : decode cX8_removeNode 36 = .ok (.bipush 64, 2) := by decide +kernel
theorem dX8_removeNode_38 : decode cX8_removeNode 38 = .ok (.iload_n 1, 1) := by decide +kernel
theorem dX8_removeNode_39 : decode cX8_removeNode 39 = .ok (.imul, 1) := by decide +kernel
theorem dX8_removeNode_40 : decode cX8_removeNode 40 = .ok (.iload_n 3, 1) := by decide +kernel
theorem dX8_removeNode_41 : decode cX8_removeNode 41 = .ok (.iadd, 1) := by decide +kernel
theorem dX8_removeNode_42 : decode cX8_removeNode 42 = .ok (.iconst 1, 1) := by decide +kernel
theorem dX8_removeNode_43 : decode cX8_removeNode 43 = .ok (.iadd, 1) := by decide +kernel
theorem dX8_removeNode_44 : decode cX8_removeNode 44 = .ok (.iaload, 1) := by decide +kernel
theorem dX8_removeNode_45 : decode cX8_removeNode 45 = .ok (.iastore, 1) := by decide +kernel
theorem dX8_removeNode_46 : decode cX8_removeNode 46 = .ok (.iinc 3 1, 3) := by decide +kernel
theorem dX8_removeNode_49 : decode cX8_removeNode 49 = .ok (.goto (-37), 3) := by decide +kernel
theorem dX8_removeNode_52 : decode cX8_removeNode 52 = .ok (.return_, 1) := by decide +kernel
theorem dX8_splitUp_0 : decode cX8_splitUp 0 = .ok (.iconst 0, 1) := by decide +kernel
theorem dX8_splitUp_1 : decode cX8_splitUp 1 = .ok (.istore_n 2, 1) := by decide +kernel
theorem dX8_splitUp_2 : decode cX8_splitUp 2 = .ok (.iload_n 1, 1) := by decide +kernel
theorem dX8_splitUp_3 : decode cX8_splitUp 3 = .ok (.istore_n 3, 1) := by decide +kernel
theorem dX8_splitUp_4 : decode cX8_splitUp 4 = .ok (.aload_n 0, 1) := by decide +kernel
theorem dX8_splitUp_5 : decode cX8_splitUp 5 = .ok (.getfield 20, 3) := by decide +kernel
theorem dX8_splitUp_8 : decode cX8_splitUp 8 = .ok (.bipush 64, 2) := by decide +kernel
theorem dX8_splitUp_10 : decode cX8_splitUp 10 = .ok (.iload_n 2, 1) := by decide +kernel
theorem dX8_splitUp_11 : decode cX8_splitUp 11 = .ok (.imul, 1) := by decide +kernel
theorem dX8_splitUp_12 : decode cX8_splitUp 12 = .ok (.iload_n 3, 1) := by decide +kernel
theorem dX8_splitUp_13 : decode cX8_splitUp 13 = .ok (.iadd, 1) := by decide +kernel
theorem dX8_splitUp_14 : decode cX8_splitUp 14 = .ok (.iaload, 1) := by decide +kernel
theorem dX8_splitUp_15 : decode cX8_splitUp 15 = .ok (.aload_n 0, 1) := by decide +kernel
theorem dX8_splitUp_16 : decode cX8_splitUp 16 = .ok (.getfield 81, 3) := by decide +kernel
theorem dX8_splitUp_19 : decode cX8_splitUp 19 = .ok (.if_icmp .le 145, 3) := by decide +kernel
theorem dX8_splitUp_22 : decode cX8_splitUp 22 = .ok (.aload_n 0, 1) := by decide +kernel
theorem dX8_splitUp_23 : decode cX8_splitUp 23 = .ok (.getfield 81, 3) := by decide +kernel
theorem dX8_splitUp_26 : decode cX8_splitUp 26 = .ok (.iconst 2, 1) := by decide +kernel
theorem dX8_splitUp_27 : decode cX8_splitUp 27 = .ok (.iadd, 1) := by decide +kernel
theorem dX8_splitUp_28 : decode cX8_splitUp 28 = .ok (.iconst 2, 1) := by decide +kernel
theorem dX8_splitUp_29 : decode cX8_splitUp 29 = .ok (.idiv, 1) := by decide +kernel
theorem dX8_splitUp_30 : decode cX8_splitUp 30 = .ok (.istore 4, 2) := by decide +kernel
theorem dX8_splitUp_32 : decode cX8_splitUp 32 = .ok (.iload_n 2, 1) := by decide +kernel
theorem dX8_splitUp_33 : decode cX8_splitUp 33 = .ok (.aload_n 0, 1) := by decide +kernel
theorem dX8_splitUp_34 : decode cX8_splitUp 34 = .ok (.getfield 16, 3) := by decide +kernel
theorem dX8_splitUp_37 : decode cX8_splitUp 37 = .ok (.iconst 1, 1) := by decide +kernel
theorem dX8_splitUp_38 : decode cX8_splitUp 38 = .ok (.isub, 1) := by decide +kernel
theorem dX8_splitUp_39 : decode cX8_splitUp 39 = .ok (.if_icmp .ne 7, 3) := by decide +kernel
theorem dX8_splitUp_42 : decode cX8_splitUp 42 = .ok (.iconst 1, 1) := by decide +kernel
theorem dX8_splitUp_43 : decode cX8_splitUp 43 = .ok (.goto 4, 3) := by decide +kernel
theorem dX8_splitUp_46 : decode cX8_splitUp 46 = .ok (.iconst 0, 1) := by decide +kernel
theorem dX8_splitUp_47 : decode cX8_splitUp 47 = .ok (.istore 5, 2) := by decide +kernel
theorem dX8_splitUp_49 : decode cX8_splitUp 49 = .ok (.iload 5, 2) := by decide +kernel
theorem dX8_splitUp_51 : decode cX8_splitUp 51 = .ok (.ifCond .eq 7, 3) := by decide +kernel
theorem dX8_splitUp_54 : decode cX8_splitUp 54 = .ok (.iconst 0, 1) := by decide +kernel
theorem dX8_splitUp_55 : decode cX8_splitUp 55 = .ok (.goto 11, 3) := by decide +kernel
theorem dX8_splitUp_58 : decode cX8_splitUp 58 = .ok (.aload_n 0, 1) := by decide +kernel
theorem dX8_splitUp_59 : decode cX8_splitUp 59 = .ok (.iload_n 2, 1) := by decide +kernel
theorem dX8_splitUp_60 : decode cX8_splitUp 60 = .ok (.iconst 1, 1) := by decide +kernel
theorem dX8_splitUp_61 : decode cX8_splitUp 61 = .ok (.iadd, 1) := by decide +kernel
theorem dX8_splitUp_62 : decode cX8_splitUp 62 = .ok (.iload_n 3, 1) := by decide +kernel
theorem dX8_splitUp_63 : decode cX8_splitUp 63 = .ok (.invokevirtual 97, 3) := by decide +kernel
theorem dX8_splitUp_66 : decode cX8_splitUp 66 = .ok (.istore 6, 2) := by decide +kernel
theorem dX8_splitUp_68 : decode cX8_splitUp 68 = .ok (.aload_n 0, 1) := by decide +kernel
theorem dX8_splitUp_69 : decode cX8_splitUp 69 = .ok (.getfield 20, 3) := by decide +kernel
theorem dX8_splitUp_72 : decode cX8_splitUp 72 = .ok (.bipush 64, 2) := by decide +kernel
theorem dX8_splitUp_74 : decode cX8_splitUp 74 = .ok (.iload_n 2, 1) := by decide +kernel
theorem dX8_splitUp_75 : decode cX8_splitUp 75 = .ok (.imul, 1) := by decide +kernel
theorem dX8_splitUp_76 : decode cX8_splitUp 76 = .ok (.iload_n 3, 1) := by decide +kernel
theorem dX8_splitUp_77 : decode cX8_splitUp 77 = .ok (.iadd, 1) := by decide +kernel
theorem dX8_splitUp_78 : decode cX8_splitUp 78 = .ok (.iload 4, 2) := by decide +kernel
theorem dX8_splitUp_80 : decode cX8_splitUp 80 = .ok (.iastore, 1) := by decide +kernel
theorem dX8_splitUp_81 : decode cX8_splitUp 81 = .ok (.aload_n 0, 1) := by decide +kernel
theorem dX8_splitUp_82 : decode cX8_splitUp 82 = .ok (.iload_n 2, 1) := by decide +kernel
theorem dX8_splitUp_83 : decode cX8_splitUp 83 = .ok (.iload_n 3, 1) := by decide +kernel
theorem dX8_splitUp_84 : decode cX8_splitUp 84 = .ok (.iconst 1, 1) := by decide +kernel
theorem dX8_splitUp_85 : decode cX8_splitUp 85 = .ok (.iadd, 1) := by decide +kernel
theorem dX8_splitUp_86 : decode cX8_splitUp 86 = .ok (.aload_n 0, 1) := by decide +kernel
theorem dX8_splitUp_87 : decode cX8_splitUp 87 = .ok (.getfield 81, 3) := by decide +kernel
theorem dX8_splitUp_90 : decode cX8_splitUp 90 = .ok (.iconst 1, 1) := by decide +kernel
theorem dX8_splitUp_91 : decode cX8_splitUp 91 = .ok (.iadd, 1) := by decide +kernel
theorem dX8_splitUp_92 : decode cX8_splitUp 92 = .ok (.iload 4, 2) := by decide +kernel
theorem dX8_splitUp_94 : decode cX8_splitUp 94 = .ok (.isub, 1) := by decide +kernel
theorem dX8_splitUp_95 : decode cX8_splitUp 95 = .ok (.invokevirtual 101, 3) := by decide +kernel
theorem dX8_splitUp_98 : decode cX8_splitUp 98 = .ok (.iload 5, 2) := by decide +kernel
theorem dX8_splitUp_100 : decode cX8_splitUp 100 = .ok (.ifCond .eq 37, 3) := by decide +kernel
theorem dX8_splitUp_103 : decode cX8_splitUp 103 = .ok (.aload_n 0, 1) := by decide +kernel
theorem dX8_splitUp_104 : decode cX8_splitUp 104 = .ok (.dup, 1) := by decide +kernel
theorem dX8_splitUp_105 : decode cX8_splitUp 105 = .ok (.getfield 16, 3) := by decide +kernel
theorem dX8_splitUp_108 : decode cX8_splitUp 108 = .ok (.iconst 1, 1) := by decide +kernel
theorem dX8_splitUp_109 : decode cX8_splitUp 109 = .ok (.iadd, 1) := by decide +kernel
theorem dX8_splitUp_110 : decode cX8_splitUp 110 = .ok (.putfield 16, 3) := by decide +kernel
theorem dX8_splitUp_113 : decode cX8_splitUp 113 = .ok (.aload_n 0, 1) := by decide +kernel
theorem dX8_splitUp_114 : decode cX8_splitUp 114 = .ok (.getfield 23, 3) := by decide +kernel
theorem dX8_splitUp_117 : decode cX8_splitUp 117 = .ok (.iload_n 2, 1) := by decide +kernel
theorem dX8_splitUp_118 : decode cX8_splitUp 118 = .ok (.iconst 1, 1) := by decide +kernel
theorem dX8_splitUp_119 : decode cX8_splitUp 119 = .ok (.iadd, 1) := by decide +kernel
theorem dX8_splitUp_120 : decode cX8_splitUp 120 = .ok (.iconst 1, 1) := by decide +kernel
theorem dX8_splitUp_121 : decode cX8_splitUp 121 = .ok (.iastore, 1) := by decide +kernel
theorem dX8_splitUp_122 : decode cX8_splitUp 122 = .ok (.aload_n 0, 1) := by decide +kernel
theorem dX8_splitUp_123 : decode cX8_splitUp 123 = .ok (.getfield 20, 3) := by decide +kernel
theorem dX8_splitUp_126 : decode cX8_splitUp 126 = .ok (.bipush 64, 2) := by decide +kernel
theorem dX8_splitUp_128 : decode cX8_splitUp 128 = .ok (.iload_n 2, 1) := by decide +kernel
theorem dX8_splitUp_129 : decode cX8_splitUp 129 = .ok (.iconst 1, 1) := by decide +kernel
theorem dX8_splitUp_130 : decode cX8_splitUp 130 = .ok (.iadd, 1) := by decide +kernel
theorem dX8_splitUp_131 : decode cX8_splitUp 131 = .ok (.imul, 1) := by decide +kernel
theorem dX8_splitUp_132 : decode cX8_splitUp 132 = .ok (.iconst 2, 1) := by decide +kernel
theorem dX8_splitUp_133 : decode cX8_splitUp 133 = .ok (.iastore, 1) := by decide +kernel
theorem dX8_splitUp_134 : decode cX8_splitUp 134 = .ok (.goto 21, 3) := by decide +kernel
theorem dX8_splitUp_137 : decode cX8_splitUp 137 = .ok (.aload_n 0, 1) := by decide +kernel
theorem dX8_splitUp_138 : decode cX8_splitUp 138 = .ok (.getfield 20, 3) := by decide +kernel
theorem dX8_splitUp_141 : decode cX8_splitUp 141 = .ok (.bipush 64, 2) := by decide +kernel
theorem dX8_splitUp_143 : decode cX8_splitUp 143 = .ok (.iload_n 2, 1) := by decide +kernel
theorem dX8_splitUp_144 : decode cX8_splitUp 144 = .ok (.iconst 1, 1) := by decide +kernel
theorem dX8_splitUp_145 : decode cX8_splitUp 145 = .ok (.iadd, 1) := by decide +kernel
theorem dX8_splitUp_146 : decode cX8_splitUp 146 = .ok (.imul, 1) := by decide +kernel
theorem dX8_splitUp_147 : decode cX8_splitUp 147 = .ok (.iload 6, 2) := by decide +kernel
theorem dX8_splitUp_149 : decode cX8_splitUp 149 = .ok (.iadd, 1) := by decide +kernel
theorem dX8_splitUp_150 : decode cX8_splitUp 150 = .ok (.dup2, 1) := by decide +kernel
theorem dX8_splitUp_151 : decode cX8_splitUp 151 = .ok (.iaload, 1) := by decide +kernel
theorem dX8_splitUp_152 : decode cX8_splitUp 152 = .ok (.iconst 1, 1) := by decide +kernel
theorem dX8_splitUp_153 : decode cX8_splitUp 153 = .ok (.iadd, 1) := by decide +kernel
theorem dX8_splitUp_154 : decode cX8_splitUp 154 = .ok (.iastore, 1) := by decide +kernel
theorem dX8_splitUp_155 : decode cX8_splitUp 155 = .ok (.iinc 2 1, 3) := by decide +kernel
theorem dX8_splitUp_158 : decode cX8_splitUp 158 = .ok (.iload 6, 2) := by decide +kernel
theorem dX8_splitUp_160 : decode cX8_splitUp 160 = .ok (.istore_n 3, 1) := by decide +kernel
theorem dX8_splitUp_161 : decode cX8_splitUp 161 = .ok (.goto (-157), 3) := by decide +kernel
theorem dX8_splitUp_164 : decode cX8_splitUp 164 = .ok (.return_, 1) := by decide +kernel
theorem dX8_put_0 : decode cX8_put 0 = .ok (.iload_n 1, 1) := by decide +kernel
theorem dX8_put_1 : decode cX8_put 1 = .ok (.sipush (-9999), 3) := by decide +kernel
theorem dX8_put_4 : decode cX8_put 4 = .ok (.if_icmp .lt 10, 3) := by decide +kernel
theorem dX8_put_7 : decode cX8_put 7 = .ok (.iload_n 1, 1) := by decide +kernel
theorem dX8_put_8 : decode cX8_put 8 = .ok (.sipush 9999, 3) := by decide +kernel
theorem dX8_put_11 : decode cX8_put 11 = .ok (.if_icmp .le 5, 3) := by decide +kernel
theorem dX8_put_14 : decode cX8_put 14 = .ok (.iconst 0, 1) := by decide +kernel
theorem dX8_put_15 : decode cX8_put 15 = .ok (.ireturn, 1) := by decide +kernel
theorem dX8_put_16 : decode cX8_put 16 = .ok (.aload_n 0, 1) := by decide +kernel
theorem dX8_put_17 : decode cX8_put 17 = .ok (.iload_n 1, 1) := by decide +kernel
theorem dX8_put_18 : decode cX8_put 18 = .ok (.invokevirtual 105, 3) := by decide +kernel
theorem dX8_put_21 : decode cX8_put 21 = .ok (.istore_n 3, 1) := by decide +kernel
theorem dX8_put_22 : decode cX8_put 22 = .ok (.iload_n 3, 1) := by decide +kernel
theorem dX8_put_23 : decode cX8_put 23 = .ok (.ifCond .lt 16, 3) := by decide +kernel
theorem dX8_put_26 : decode cX8_put 26 = .ok (.aload_n 0, 1) := by decide +kernel
theorem dX8_put_27 : decode cX8_put 27 = .ok (.getfield 13, 3) := by decide +kernel
theorem dX8_put_30 : decode cX8_put 30 = .ok (.iload_n 3, 1) := by decide +kernel
theorem dX8_put_31 : decode cX8_put 31 = .ok (.iload_n 2, 1) := by decide +kernel
theorem dX8_put_32 : decode cX8_put 32 = .ok (.iastore, 1) := by decide +kernel
theorem dX8_put_33 : decode cX8_put 33 = .ok (.aload_n 0, 1) := by decide +kernel
theorem dX8_put_34 : decode cX8_put 34 = .ok (.invokevirtual 87, 3) := by decide +kernel
theorem dX8_put_37 : decode cX8_put 37 = .ok (.iconst 2, 1) := by decide +kernel
theorem dX8_put_38 : decode cX8_put 38 = .ok (.ireturn, 1) := by decide +kernel
theorem dX8_put_39 : decode cX8_put 39 = .ok (.aload_n 0, 1) := by decide +kernel
theorem dX8_put_40 : decode cX8_put 40 = .ok (.getfield 90, 3) := by decide +kernel
theorem dX8_put_43 : decode cX8_put 43 = .ok (.bipush 60, 2) := by decide +kernel
theorem dX8_put_45 : decode cX8_put 45 = .ok (.if_icmp .ne 5, 3) := by decide +kernel
theorem dX8_put_48 : decode cX8_put 48 = .ok (.iconst 0, 1) := by decide +kernel
theorem dX8_put_49 : decode cX8_put 49 = .ok (.ireturn, 1) := by decide +kernel
theorem dX8_put_50 : decode cX8_put 50 = .ok (.aload_n 0, 1) := by decide +kernel
theorem dX8_put_51 : decode cX8_put 51 = .ok (.iload_n 1, 1) := by decide +kernel
theorem dX8_put_52 : decode cX8_put 52 = .ok (.invokevirtual 93, 3) := by decide +kernel
theorem dX8_put_55 : decode cX8_put 55 = .ok (.istore 4, 2) := by decide +kernel
theorem dX8_put_57 : decode cX8_put 57 = .ok (.aload_n 0, 1) := by decide +kernel
theorem dX8_put_58 : decode cX8_put 58 = .ok (.iconst 0, 1) := by decide +kernel
theorem dX8_put_59 : decode cX8_put 59 = .ok (.iload 4, 2) := by decide +kernel
theorem dX8_put_61 : decode cX8_put 61 = .ok (.ifCond .ne 7, 3) := by decide +kernel
theorem dX8_put_64 : decode cX8_put 64 = .ok (.iconst 0, 1) := by decide +kernel
theorem dX8_put_65 : decode cX8_put 65 = .ok (.goto 7, 3) := by decide +kernel
theorem dX8_put_68 : decode cX8_put 68 = .ok (.iload 4, 2) := by decide +kernel
theorem dX8_put_70 : decode cX8_put 70 = .ok (.iconst 1, 1) := by decide +kernel
theorem dX8_put_71 : decode cX8_put 71 = .ok (.isub, 1) := by decide +kernel
theorem dX8_put_72 : decode cX8_put 72 = .ok (.invokevirtual 97, 3) := by decide +kernel
theorem dX8_put_75 : decode cX8_put 75 = .ok (.istore 5, 2) := by decide +kernel
theorem dX8_put_77 : decode cX8_put 77 = .ok (.aload_n 0, 1) := by decide +kernel
theorem dX8_put_78 : decode cX8_put 78 = .ok (.getfield 90, 3) := by decide +kernel
theorem dX8_put_81 : decode cX8_put 81 = .ok (.istore 6, 2) := by decide +kernel
theorem dX8_put_83 : decode cX8_put 83 = .ok (.iload 6, 2) := by decide +kernel
theorem dX8_put_85 : decode cX8_put 85 = .ok (.iload 4, 2) := by decide +kernel
theorem dX8_put_87 : decode cX8_put 87 = .ok (.if_icmp .le 41, 3) := by decide +kernel
theorem dX8_put_90 : decode cX8_put 90 = .ok (.aload_n 0, 1) := by decide +kernel
theorem dX8_put_91 : decode cX8_put 91 = .ok (.getfield 7, 3) := by decide +kernel
theorem dX8_put_94 : decode cX8_put 94 = .ok (.iload 6, 2) := by decide +kernel
theorem dX8_put_96 : decode cX8_put 96 = .ok (.aload_n 0, 1) := by decide +kernel
theorem dX8_put_97 : decode cX8_put 97 = .ok (.getfield 7, 3) := by decide +kernel
theorem dX8_put_100 : decode cX8_put 100 = .ok (.iload 6, 2) := by decide +kernel
theorem dX8_put_102 : decode cX8_put 102 = .ok (.iconst 1, 1) := by decide +kernel
theorem dX8_put_103 : decode cX8_put 103 = .ok (.isub, 1) := by decide +kernel
theorem dX8_put_104 : decode cX8_put 104 = .ok (.iaload, 1) := by decide +kernel
theorem dX8_put_105 : decode cX8_put 105 = .ok (.iastore, 1) := by decide +kernel
theorem dX8_put_106 : decode cX8_put 106 = .ok (.aload_n 0, 1) := by decide +kernel
theorem dX8_put_107 : decode cX8_put 107 = .ok (.getfield 13, 3) := by decide +kernel
theorem dX8_put_110 : decode cX8_put 110 = .ok (.iload 6, 2) := by decide +kernel
theorem dX8_put_112 : decode cX8_put 112 = .ok (.aload_n 0, 1) := by decide +kernel
theorem dX8_put_113 : decode cX8_put 113 = .ok (.getfield 13, 3) := by decide +kernel
theorem dX8_put_116 : decode cX8_put 116 = .ok (.iload 6, 2) := by decide +kernel
theorem dX8_put_118 : decode cX8_put 118 = .ok (.iconst 1, 1) := by decide +kernel
theorem dX8_put_119 : decode cX8_put 119 = .ok (.isub, 1) := by decide +kernel
theorem dX8_put_120 : decode cX8_put 120 = .ok (.iaload, 1) := by decide +kernel
theorem dX8_put_121 : decode cX8_put 121 = .ok (.iastore, 1) := by decide +kernel
theorem dX8_put_122 : decode cX8_put 122 = .ok (.iinc 6 (-1), 3) := by decide +kernel
theorem dX8_put_125 : decode cX8_put 125 = .ok (.goto (-42), 3) := by decide +kernel
theorem dX8_put_128 : decode cX8_put 128 = .ok (.aload_n 0, 1) := by decide +kernel
theorem dX8_put_129 : decode cX8_put 129 = .ok (.getfield 7, 3) := by decide +kernel
theorem dX8_put_132 : decode cX8_put 132 = .ok (.iload 4, 2) := by decide +kernel
theorem dX8_put_134 : decode cX8_put 134 = .ok (.iload_n 1, 1) := by decide +kernel
theorem dX8_put_135 : decode cX8_put 135 = .ok (.iastore, 1) := by decide +kernel
theorem dX8_put_136 : decode cX8_put 136 = .ok (.aload_n 0, 1) := by decide +kernel
theorem dX8_put_137 : decode cX8_put 137 = .ok (.getfield 13, 3) := by decide +kernel
theorem dX8_put_140 : decode cX8_put 140 = .ok (.iload 4, 2) := by decide +kernel
theorem dX8_put_142 : decode cX8_put 142 = .ok (.iload_n 2, 1) := by decide +kernel
theorem dX8_put_143 : decode cX8_put 143 = .ok (.iastore, 1) := by decide +kernel
theorem dX8_put_144 : decode cX8_put 144 = .ok (.aload_n 0, 1) := by decide +kernel
theorem dX8_put_145 : decode cX8_put 145 = .ok (.dup, 1) := by decide +kernel
theorem dX8_put_146 : decode cX8_put 146 = .ok (.getfield 90, 3) := by decide +kernel
theorem dX8_put_149 : decode cX8_put 149 = .ok (.iconst 1, 1) := by decide +kernel
theorem dX8_put_150 : decode cX8_put 150 = .ok (.iadd, 1) := by decide +kernel
theorem dX8_put_151 : decode cX8_put 151 = .ok (.putfield 90, 3) := by decide +kernel
theorem dX8_put_154 : decode cX8_put 154 = .ok (.aload_n 0, 1) := by decide +kernel
theorem dX8_put_155 : decode cX8_put 155 = .ok (.getfield 20, 3) := by decide +kernel
theorem dX8_put_158 : decode cX8_put 158 = .ok (.iload 5, 2) := by decide +kernel
theorem dX8_put_160 : decode cX8_put 160 = .ok (.dup2, 1) := by decide +kernel
theorem dX8_put_161 : decode cX8_put 161 = .ok (.iaload, 1) := by decide +kernel
theorem dX8_put_162 : decode cX8_put 162 = .ok (.iconst 1, 1) := by decide +kernel
theorem dX8_put_163 : decode cX8_put 163 = .ok (.iadd, 1) := by decide +kernel
theorem dX8_put_164 : decode cX8_put 164 = .ok (.iastore, 1) := by decide +kernel
theorem dX8_put_165 : decode cX8_put 165 = .ok (.aload_n 0, 1) := by decide +kernel
theorem dX8_put_166 : decode cX8_put 166 = .ok (.iload 5, 2) := by decide +kernel
theorem dX8_put_168 : decode cX8_put 168 = .ok (.invokevirtual 108, 3) := by decide +kernel
theorem dX8_put_171 : decode cX8_put 171 = .ok (.aload_n 0, 1) := by decide +kernel
theorem dX8_put_172 : decode cX8_put 172 = .ok (.invokevirtual 87, 3) := by decide +kernel
theorem dX8_put_175 : decode cX8_put 175 = .ok (.iconst 1, 1) := by decide +kernel
theorem dX8_put_176 : decode cX8_put 176 = .ok (.ireturn, 1) := by decide +kernel
theorem dX8_settle_0 : decode cX8_settle 0 = .ok (.bipush 64, 2) := by decide +kernel
theorem dX8_settle_2 : decode cX8_settle 2 = .ok (.iload_n 1, 1) := by decide +kernel
theorem dX8_settle_3 : decode cX8_settle 3 = .ok (.imul, 1) := by decide +kernel
theorem dX8_settle_4 : decode cX8_settle 4 = .ok (.iload_n 2, 1) := by decide +kernel
theorem dX8_settle_5 : decode cX8_settle 5 = .ok (.iadd, 1) := by decide +kernel
theorem dX8_settle_6 : decode cX8_settle 6 = .ok (.istore 4, 2) := by decide +kernel
theorem dX8_settle_8 : decode cX8_settle 8 = .ok (.aload_n 0, 1) := by decide +kernel
theorem dX8_settle_9 : decode cX8_settle 9 = .ok (.iload_n 1, 1) := by decide +kernel
theorem dX8_settle_10 : decode cX8_settle 10 = .ok (.iload_n 2, 1) := by decide +kernel
theorem dX8_settle_11 : decode cX8_settle 11 = .ok (.iload_n 3, 1) := by decide +kernel
theorem dX8_settle_12 : decode cX8_settle 12 = .ok (.invokevirtual 112, 3) := by decide +kernel
theorem dX8_settle_15 : decode cX8_settle 15 = .ok (.istore 5, 2) := by decide +kernel
theorem dX8_settle_17 : decode cX8_settle 17 = .ok (.iload 5, 2) := by decide +kernel
theorem dX8_settle_19 : decode cX8_settle 19 = .ok (.ifCond .le 7, 3) := by decide +kernel
theorem dX8_settle_22 : decode cX8_settle 22 = .ok (.iconst 1, 1) := by decide +kernel
theorem dX8_settle_23 : decode cX8_settle 23 = .ok (.goto 4, 3) := by decide +kernel
theorem dX8_settle_26 : decode cX8_settle 26 = .ok (.iconst 0, 1) := by decide +kernel
theorem dX8_settle_27 : decode cX8_settle 27 = .ok (.istore 6, 2) := by decide +kernel
theorem dX8_settle_29 : decode cX8_settle 29 = .ok (.iload 5, 2) := by decide +kernel
theorem dX8_settle_31 : decode cX8_settle 31 = .ok (.aload_n 0, 1) := by decide +kernel
theorem dX8_settle_32 : decode cX8_settle 32 = .ok (.getfield 20, 3) := by decide +kernel
theorem dX8_settle_35 : decode cX8_settle 35 = .ok (.bipush 64, 2) := by decide +kernel
theorem dX8_settle_37 : decode cX8_settle 37 = .ok (.iload_n 1, 1) := by decide +kernel
theorem dX8_settle_38 : decode cX8_settle 38 = .ok (.iconst 1, 1) := by decide +kernel
theorem dX8_settle_39 : decode cX8_settle 39 = .ok (.iadd, 1) := by decide +kernel
theorem dX8_settle_40 : decode cX8_settle 40 = .ok (.imul, 1) := by decide +kernel
theorem dX8_settle_41 : decode cX8_settle 41 = .ok (.iload_n 3, 1) := by decide +kernel
theorem dX8_settle_42 : decode cX8_settle 42 = .ok (.iadd, 1) := by decide +kernel
theorem dX8_settle_43 : decode cX8_settle 43 = .ok (.iaload, 1) := by decide +kernel
theorem dX8_settle_44 : decode cX8_settle 44 = .ok (.iconst 1, 1) := by decide +kernel
theorem dX8_settle_45 : decode cX8_settle 45 = .ok (.isub, 1) := by decide +kernel
theorem dX8_settle_46 : decode cX8_settle 46 = .ok (.if_icmp .ge 7, 3) := by decide +kernel
theorem dX8_settle_49 : decode cX8_settle 49 = .ok (.iconst 1, 1) := by decide +kernel
theorem dX8_settle_50 : decode cX8_settle 50 = .ok (.goto 4, 3) := by decide +kernel
theorem dX8_settle_53 : decode cX8_settle 53 = .ok (.iconst 0, 1) := by decide +kernel
theorem dX8_settle_54 : decode cX8_settle 54 = .ok (.istore 7, 2) := by decide +kernel
theorem dX8_settle_56 : decode cX8_settle 56 = .ok (.iload 6, 2) := by decide +kernel
theorem dX8_settle_58 : decode cX8_settle 58 = .ok (.ifCond .eq 45, 3) := by decide +kernel
theorem dX8_settle_61 : decode cX8_settle 61 = .ok (.aload_n 0, 1) := by decide +kernel
theorem dX8_settle_62 : decode cX8_settle 62 = .ok (.getfield 20, 3) := by decide +kernel
theorem dX8_settle_65 : decode cX8_settle 65 = .ok (.iload 4, 2) := by decide +kernel
theorem dX8_settle_67 : decode cX8_settle 67 = .ok (.iconst 1, 1) := by decide +kernel
theorem dX8_settle_68 : decode cX8_settle 68 = .ok (.isub, 1) := by decide +kernel
theorem dX8_settle_69 : decode cX8_settle 69 = .ok (.iaload, 1) := by decide +kernel
theorem dX8_settle_70 : decode cX8_settle 70 = .ok (.aload_n 0, 1) := by decide +kernel
theorem dX8_settle_71 : decode cX8_settle 71 = .ok (.getfield 84, 3) := by decide +kernel
theorem dX8_settle_74 : decode cX8_settle 74 = .ok (.if_icmp .le 29, 3) := by decide +kernel
theorem dX8_settle_77 : decode cX8_settle 77 = .ok (.aload_n 0, 1) := by decide +kernel
theorem dX8_settle_78 : decode cX8_settle 78 = .ok (.getfield 20, 3) := by decide +kernel
theorem dX8_settle_81 : decode cX8_settle 81 = .ok (.iload 4, 2) := by decide +kernel
theorem dX8_settle_83 : decode cX8_settle 83 = .ok (.iconst 1, 1) := by decide +kernel
theorem dX8_settle_84 : decode cX8_settle 84 = .ok (.isub, 1) := by decide +kernel
theorem dX8_settle_85 : decode cX8_settle 85 = .ok (.dup2, 1) := by decide +kernel
theorem dX8_settle_86 : decode cX8_settle 86 = .ok (.iaload, 1) := by decide +kernel
theorem dX8_settle_87 : decode cX8_settle 87 = .ok (.iconst 1, 1) := by decide +kernel
theorem dX8_settle_88 : decode cX8_settle 88 = .ok (.isub, 1) := by decide +kernel
theorem dX8_settle_89 : decode cX8_settle 89 = .ok (.iastore, 1) := by decide +kernel
theorem dX8_settle_90 : decode cX8_settle 90 = .ok (.aload_n 0, 1) := by decide +kernel
theorem dX8_settle_91 : decode cX8_settle 91 = .ok (.getfield 20, 3) := by decide +kernel
theorem dX8_settle_94 : decode cX8_settle 94 = .ok (.iload 4, 2) := by decide +kernel
theorem dX8_settle_96 : decode cX8_settle 96 = .ok (.dup2, 1) := by decide +kernel
theorem dX8_settle_97 : decode cX8_settle 97 = .ok (.iaload, 1) := by decide +kernel
theorem dX8_settle_98 : decode cX8_settle 98 = .ok (.iconst 1, 1) := by decide +kernel
theorem dX8_settle_99 : decode cX8_settle 99 = .ok (.iadd, 1) := by decide +kernel
theorem dX8_settle_100 : decode cX8_settle 100 = .ok (.iastore, 1) := by decide +kernel
theorem dX8_settle_101 : decode cX8_settle 101 = .ok (.iconst 0, 1) := by decide +kernel
theorem dX8_settle_102 : decode cX8_settle 102 = .ok (.ireturn, 1) := by decide +kernel
theorem dX8_settle_103 : decode cX8_settle 103 = .ok (.iload 7, 2) := by decide +kernel
theorem dX8_settle_105 : decode cX8_settle 105 = .ok (.ifCond .eq 45, 3) := by decide +kernel
theorem dX8_settle_108 : decode cX8_settle 108 = .ok (.aload_n 0, 1) := by decide +kernel
theorem dX8_settle_109 : decode cX8_settle 109 = .ok (.getfield 20, 3) := by decide +kernel
theorem dX8_settle_112 : decode cX8_settle 112 = .ok (.iload 4, 2) := by decide +kernel
theorem dX8_settle_114 : decode cX8_settle 114 = .ok (.iconst 1, 1) := by decide +kernel
theorem dX8_settle_115 : decode cX8_settle 115 = .ok (.iadd, 1) := by decide +kernel
theorem dX8_settle_116 : decode cX8_settle 116 = .ok (.iaload, 1) := by decide +kernel
theorem dX8_settle_117 : decode cX8_settle 117 = .ok (.aload_n 0, 1) := by decide +kernel
theorem dX8_settle_118 : decode cX8_settle 118 = .ok (.getfield 84, 3) := by decide +kernel
theorem dX8_settle_121 : decode cX8_settle 121 = .ok (.if_icmp .le 29, 3) := by decide +kernel
theorem dX8_settle_124 : decode cX8_settle 124 = .ok (.aload_n 0, 1) := by decide +kernel
theorem dX8_settle_125 : decode cX8_settle 125 = .ok (.getfield 20, 3) := by decide +kernel
theorem dX8_settle_128 : decode cX8_settle 128 = .ok (.iload 4, 2) := by decide +kernel
theorem dX8_settle_130 : decode cX8_settle 130 = .ok (.iconst 1, 1) := by decide +kernel
theorem dX8_settle_131 : decode cX8_settle 131 = .ok (.iadd, 1) := by decide +kernel
theorem dX8_settle_132 : decode cX8_settle 132 = .ok (.dup2, 1) := by decide +kernel
theorem dX8_settle_133 : decode cX8_settle 133 = .ok (.iaload, 1) := by decide +kernel
theorem dX8_settle_134 : decode cX8_settle 134 = .ok (.iconst 1, 1) := by decide +kernel
theorem dX8_settle_135 : decode cX8_settle 135 = .ok (.isub, 1) := by decide +kernel
theorem dX8_settle_136 : decode cX8_settle 136 = .ok (.iastore, 1) := by decide +kernel
theorem dX8_settle_137 : decode cX8_settle 137 = .ok (.aload_n 0, 1) := by decide +kernel
theorem dX8_settle_138 : decode cX8_settle 138 = .ok (.getfield 20, 3) := by decide +kernel
theorem dX8_settle_141 : decode cX8_settle 141 = .ok (.iload 4, 2) := by decide +kernel
theorem dX8_settle_143 : decode cX8_settle 143 = .ok (.dup2, 1) := by decide +kernel
theorem dX8_settle_144 : decode cX8_settle 144 = .ok (.iaload, 1) := by decide +kernel
theorem dX8_settle_145 : decode cX8_settle 145 = .ok (.iconst 1, 1) := by decide +kernel
theorem dX8_settle_146 : decode cX8_settle 146 = .ok (.iadd, 1) := by decide +kernel
theorem dX8_settle_147 : decode cX8_settle 147 = .ok (.iastore, 1) := by decide +kernel
theorem dX8_settle_148 : decode cX8_settle 148 = .ok (.iconst 0, 1) := by decide +kernel
theorem dX8_settle_149 : decode cX8_settle 149 = .ok (.ireturn, 1) := by decide +kernel
theorem dX8_settle_150 : decode cX8_settle 150 = .ok (.iload 6, 2) := by decide +kernel
theorem dX8_settle_152 : decode cX8_settle 152 = .ok (.ifCond .eq 9, 3) := by decide +kernel
theorem dX8_settle_155 : decode cX8_settle 155 = .ok (.iload_n 2, 1) := by decide +kernel
theorem dX8_settle_156 : decode cX8_settle 156 = .ok (.iconst 1, 1) := by decide +kernel
theorem dX8_settle_157 : decode cX8_settle 157 = .ok (.isub, 1) := by decide +kernel
theorem dX8_settle_158 : decode cX8_settle 158 = .ok (.goto 4, 3) := by decide +kernel
theorem dX8_settle_161 : decode cX8_settle 161 = .ok (.iload_n 2, 1) := by decide +kernel
theorem dX8_settle_162 : decode cX8_settle 162 = .ok (.istore 8, 2) := by decide +kernel
theorem dX8_settle_164 : decode cX8_settle 164 = .ok (.aload_n 0, 1) := by decide +kernel
theorem dX8_settle_165 : decode cX8_settle 165 = .ok (.getfield 20, 3) := by decide +kernel
theorem dX8_settle_168 : decode cX8_settle 168 = .ok (.bipush 64, 2) := by decide +kernel
theorem dX8_settle_170 : decode cX8_settle 170 = .ok (.iload_n 1, 1) := by decide +kernel
theorem dX8_settle_171 : decode cX8_settle 171 = .ok (.imul, 1) := by decide +kernel
theorem dX8_settle_172 : decode cX8_settle 172 = .ok (.iload 8, 2) := by decide +kernel
theorem dX8_settle_174 : decode cX8_settle 174 = .ok (.iadd, 1) := by decide +kernel
theorem dX8_settle_175 : decode cX8_settle 175 = .ok (.aload_n 0, 1) := by decide +kernel
theorem dX8_settle_176 : decode cX8_settle 176 = .ok (.getfield 20, 3) := by decide +kernel
theorem dX8_settle_179 : decode cX8_settle 179 = .ok (.bipush 64, 2) := by decide +kernel
theorem dX8_settle_181 : decode cX8_settle 181 = .ok (.iload_n 1, 1) := by decide +kernel
theorem dX8_settle_182 : decode cX8_settle 182 = .ok (.imul, 1) := by decide +kernel
theorem dX8_settle_183 : decode cX8_settle 183 = .ok (.iload 8, 2) := by decide +kernel
theorem dX8_settle_185 : decode cX8_settle 185 = .ok (.iadd, 1) := by decide +kernel
theorem dX8_settle_186 : decode cX8_settle 186 = .ok (.iaload, 1) := by decide +kernel
theorem dX8_settle_187 : decode cX8_settle 187 = .ok (.aload_n 0, 1) := by decide +kernel
theorem dX8_settle_188 : decode cX8_settle 188 = .ok (.getfield 20, 3) := by decide +kernel
theorem dX8_settle_191 : decode cX8_settle 191 = .ok (.bipush 64, 2) := by decide +kernel
theorem dX8_settle_193 : decode cX8_settle 193 = .ok (.iload_n 1, 1) := by decide +kernel
theorem dX8_settle_194 : decode cX8_settle 194 = .ok (.imul, 1) := by decide +kernel
theorem dX8_settle_195 : decode cX8_settle 195 = .ok (.iload 8, 2) := by decide +kernel
theorem dX8_settle_197 : decode cX8_settle 197 = .ok (.iadd, 1) := by decide +kernel
theorem dX8_settle_198 : decode cX8_settle 198 = .ok (.iconst 1, 1) := by decide +kernel
theorem dX8_settle_199 : decode cX8_settle 199 = .ok (.iadd, 1) := by decide +kernel
theorem dX8_settle_200 : decode cX8_settle 200 = .ok (.iaload, 1) := by decide +kernel
theorem dX8_settle_201 : decode cX8_settle 201 = .ok (.iadd, 1) := by decide +kernel
theorem dX8_settle_202 : decode cX8_settle 202 = .ok (.iastore, 1) := by decide +kernel
theorem dX8_settle_203 : decode cX8_settle 203 = .ok (.aload_n 0, 1) := by decide +kernel
theorem dX8_settle_204 : decode cX8_settle 204 = .ok (.iload_n 1, 1) := by decide +kernel
theorem dX8_settle_205 : decode cX8_settle 205 = .ok (.iload 8, 2) := by decide +kernel
theorem dX8_settle_207 : decode cX8_settle 207 = .ok (.iconst 1, 1) := by decide +kernel
theorem dX8_settle_208 : decode cX8_settle 208 = .ok (.iadd, 1) := by decide +kernel
theorem dX8_settle_209 : decode cX8_settle 209 = .ok (.invokevirtual 116, 3) := by decide +kernel
theorem dX8_settle_212 : decode cX8_settle 212 = .ok (.aload_n 0, 1) := by decide +kernel
theorem dX8_settle_213 : decode cX8_settle 213 = .ok (.getfield 20, 3) := by decide +kernel
theorem dX8_settle_216 : decode cX8_settle 216 = .ok (.bipush 64, 2) := by decide +kernel
theorem dX8_settle_218 : decode cX8_settle 218 = .ok (.iload_n 1, 1) := by decide +kernel
theorem dX8_settle_219 : decode cX8_settle 219 = .ok (.iconst 1, 1) := by decide +kernel
theorem dX8_settle_220 : decode cX8_settle 220 = .ok (.iadd, 1) := by decide +kernel
theorem dX8_settle_221 : decode cX8_settle 221 = .ok (.imul, 1) := by decide +kernel
theorem dX8_settle_222 : decode cX8_settle 222 = .ok (.iload_n 3, 1) := by decide +kernel
theorem dX8_settle_223 : decode cX8_settle 223 = .ok (.iadd, 1) := by decide +kernel
theorem dX8_settle_224 : decode cX8_settle 224 = .ok (.dup2, 1) := by decide +kernel
theorem dX8_settle_225 : decode cX8_settle 225 = .ok (.iaload, 1) := by decide +kernel
theorem dX8_settle_226 : decode cX8_settle 226 = .ok (.iconst 1, 1) := by decide +kernel
theorem dX8_settle_227 : decode cX8_settle 227 = .ok (.isub, 1) := by decide +kernel
theorem dX8_settle_228 : decode cX8_settle 228 = .ok (.iastore, 1) := by decide +kernel
theorem dX8_settle_229 : decode cX8_settle 229 = .ok (.iconst 1, 1) := by decide +kernel
theorem dX8_settle_230 : decode cX8_settle 230 = .ok (.ireturn, 1) := by decide +kernel
theorem dX8_remove_0 : decode cX8_remove 0 = .ok (.aload_n 0, 1) := by decide +kernel
theorem dX8_remove_1 : decode cX8_remove 1 = .ok (.iload_n 1, 1) := by decide +kernel
theorem dX8_remove_2 : decode cX8_remove 2 = .ok (.invokevirtual 105, 3) := by decide +kernel
theorem dX8_remove_5 : decode cX8_remove 5 = .ok (.istore_n 2, 1) := by decide +kernel
theorem dX8_remove_6 : decode cX8_remove 6 = .ok (.iload_n 2, 1) := by decide +kernel
theorem dX8_remove_7 : decode cX8_remove 7 = .ok (.ifCond .ge 5, 3) := by decide +kernel
theorem dX8_remove_10 : decode cX8_remove 10 = .ok (.iconst 0, 1) := by decide +kernel
theorem dX8_remove_11 : decode cX8_remove 11 = .ok (.ireturn, 1) := by decide +kernel
theorem dX8_remove_12 : decode cX8_remove 12 = .ok (.aload_n 0, 1) := by decide +kernel
theorem dX8_remove_13 : decode cX8_remove 13 = .ok (.iconst 0, 1) := by decide +kernel
theorem dX8_remove_14 : decode cX8_remove 14 = .ok (.iload_n 2, 1) := by decide +kernel
theorem dX8_remove_15 : decode cX8_remove 15 = .ok (.invokevirtual 97, 3) := by decide +kernel
theorem dX8_remove_18 : decode cX8_remove 18 = .ok (.istore_n 3, 1) := by decide +kernel
theorem dX8_remove_19 : decode cX8_remove 19 = .ok (.aload_n 0, 1) := by decide +kernel
theorem dX8_remove_20 : decode cX8_remove 20 = .ok (.dup, 1) := by decide +kernel
theorem dX8_remove_21 : decode cX8_remove 21 = .ok (.getfield 90, 3) := by decide +kernel
theorem dX8_remove_24 : decode cX8_remove 24 = .ok (.iconst 1, 1) := by decide +kernel
theorem dX8_remove_25 : decode cX8_remove 25 = .ok (.isub, 1) := by decide +kernel
theorem dX8_remove_26 : decode cX8_remove 26 = .ok (.putfield 90, 3) := by decide +kernel
theorem dX8_remove_29 : decode cX8_remove 29 = .ok (.iload_n 2, 1) := by decide +kernel
theorem dX8_remove_30 : decode cX8_remove 30 = .ok (.istore 4, 2) := by decide +kernel
theorem dX8_remove_32 : decode cX8_remove 32 = .ok (.iload 4, 2) := by decide +kernel
theorem dX8_remove_34 : decode cX8_remove 34 = .ok (.aload_n 0, 1) := by decide +kernel
theorem dX8_remove_35 : decode cX8_remove 35 = .ok (.getfield 90, 3) := by decide +kernel
theorem dX8_remove_38 : decode cX8_remove 38 = .ok (.if_icmp .ge 41, 3) := by decide +kernel
theorem dX8_remove_41 : decode cX8_remove 41 = .ok (.aload_n 0, 1) := by decide +kernel
theorem dX8_remove_42 : decode cX8_remove 42 = .ok (.getfield 7, 3) := by decide +kernel
theorem dX8_remove_45 : decode cX8_remove 45 = .ok (.iload 4, 2) := by decide +kernel
theorem dX8_remove_47 : decode cX8_remove 47 = .ok (.aload_n 0, 1) := by decide +kernel
theorem dX8_remove_48 : decode cX8_remove 48 = .ok (.getfield 7, 3) := by decide +kernel
theorem dX8_remove_51 : decode cX8_remove 51 = .ok (.iload 4, 2) := by decide +kernel
theorem dX8_remove_53 : decode cX8_remove 53 = .ok (.iconst 1, 1) := by decide +kernel
theorem dX8_remove_54 : decode cX8_remove 54 = .ok (.iadd, 1) := by decide +kernel
theorem dX8_remove_55 : decode cX8_remove 55 = .ok (.iaload, 1) := by decide +kernel
theorem dX8_remove_56 : decode cX8_remove 56 = .ok (.iastore, 1) := by decide +kernel
theorem dX8_remove_57 : decode cX8_remove 57 = .ok (.aload_n 0, 1) := by decide +kernel
theorem dX8_remove_58 : decode cX8_remove 58 = .ok (.getfield 13, 3) := by decide +kernel
theorem dX8_remove_61 : decode cX8_remove 61 = .ok (.iload 4, 2) := by decide +kernel
theorem dX8_remove_63 : decode cX8_remove 63 = .ok (.aload_n 0, 1) := by decide +kernel
theorem dX8_remove_64 : decode cX8_remove 64 = .ok (.getfield 13, 3) := by decide +kernel
theorem dX8_remove_67 : decode cX8_remove 67 = .ok (.iload 4, 2) := by decide +kernel
theorem dX8_remove_69 : decode cX8_remove 69 = .ok (.iconst 1, 1) := by decide +kernel
theorem dX8_remove_70 : decode cX8_remove 70 = .ok (.iadd, 1) := by decide +kernel
theorem dX8_remove_71 : decode cX8_remove 71 = .ok (.iaload, 1) := by decide +kernel
theorem dX8_remove_72 : decode cX8_remove 72 = .ok (.iastore, 1) := by decide +kernel
theorem dX8_remove_73 : decode cX8_remove 73 = .ok (.iinc 4 1, 3) := by decide +kernel
theorem dX8_remove_76 : decode cX8_remove 76 = .ok (.goto (-44), 3) := by decide +kernel
theorem dX8_remove_79 : decode cX8_remove 79 = .ok (.aload_n 0, 1) := by decide +kernel
theorem dX8_remove_80 : decode cX8_remove 80 = .ok (.getfield 20, 3) := by decide +kernel
theorem dX8_remove_83 : decode cX8_remove 83 = .ok (.iload_n 3, 1) := by decide +kernel
theorem dX8_remove_84 : decode cX8_remove 84 = .ok (.dup2, 1) := by decide +kernel
theorem dX8_remove_85 : decode cX8_remove 85 = .ok (.iaload, 1) := by decide +kernel
theorem dX8_remove_86 : decode cX8_remove 86 = .ok (.iconst 1, 1) := by decide +kernel
theorem dX8_remove_87 : decode cX8_remove 87 = .ok (.isub, 1) := by decide +kernel
theorem dX8_remove_88 : decode cX8_remove 88 = .ok (.iastore, 1) := by decide +kernel
theorem dX8_remove_89 : decode cX8_remove 89 = .ok (.iconst 0, 1) := by decide +kernel
theorem dX8_remove_90 : decode cX8_remove 90 = .ok (.istore 4, 2) := by decide +kernel
theorem dX8_remove_92 : decode cX8_remove 92 = .ok (.iconst 1, 1) := by decide +kernel
theorem dX8_remove_93 : decode cX8_remove 93 = .ok (.istore 5, 2) := by decide +kernel
theorem dX8_remove_95 : decode cX8_remove 95 = .ok (.iload 5, 2) := by decide +kernel
theorem dX8_remove_97 : decode cX8_remove 97 = .ok (.ifCond .eq 64, 3) := by decide +kernel
theorem dX8_remove_100 : decode cX8_remove 100 = .ok (.iload 4, 2) := by decide +kernel
theorem dX8_remove_102 : decode cX8_remove 102 = .ok (.aload_n 0, 1) := by decide +kernel
theorem dX8_remove_103 : decode cX8_remove 103 = .ok (.getfield 16, 3) := by decide +kernel
theorem dX8_remove_106 : decode cX8_remove 106 = .ok (.iconst 1, 1) := by decide +kernel
theorem dX8_remove_107 : decode cX8_remove 107 = .ok (.isub, 1) := by decide +kernel
theorem dX8_remove_108 : decode cX8_remove 108 = .ok (.if_icmp .ge 53, 3) := by decide +kernel
theorem dX8_remove_111 : decode cX8_remove 111 = .ok (.aload_n 0, 1) := by decide +kernel
theorem dX8_remove_112 : decode cX8_remove 112 = .ok (.getfield 20, 3) := by decide +kernel
theorem dX8_remove_115 : decode cX8_remove 115 = .ok (.bipush 64, 2) := by decide +kernel
theorem dX8_remove_117 : decode cX8_remove 117 = .ok (.iload 4, 2) := by decide +kernel
theorem dX8_remove_119 : decode cX8_remove 119 = .ok (.imul, 1) := by decide +kernel
theorem dX8_remove_120 : decode cX8_remove 120 = .ok (.iload_n 3, 1) := by decide +kernel
theorem dX8_remove_121 : decode cX8_remove 121 = .ok (.iadd, 1) := by decide +kernel
theorem dX8_remove_122 : decode cX8_remove 122 = .ok (.iaload, 1) := by decide +kernel
theorem dX8_remove_123 : decode cX8_remove 123 = .ok (.aload_n 0, 1) := by decide +kernel
theorem dX8_remove_124 : decode cX8_remove 124 = .ok (.getfield 84, 3) := by decide +kernel
theorem dX8_remove_127 : decode cX8_remove 127 = .ok (.if_icmp .ge 34, 3) := by decide +kernel
theorem dX8_remove_130 : decode cX8_remove 130 = .ok (.aload_n 0, 1) := by decide +kernel
theorem dX8_remove_131 : decode cX8_remove 131 = .ok (.iload 4, 2) := by decide +kernel
theorem dX8_remove_133 : decode cX8_remove 133 = .ok (.iconst 1, 1) := by decide +kernel
theorem dX8_remove_134 : decode cX8_remove 134 = .ok (.iadd, 1) := by decide +kernel
theorem dX8_remove_135 : decode cX8_remove 135 = .ok (.iload_n 3, 1) := by decide +kernel
theorem dX8_remove_136 : decode cX8_remove 136 = .ok (.invokevirtual 97, 3) := by decide +kernel
theorem dX8_remove_139 : decode cX8_remove 139 = .ok (.istore 6, 2) := by decide +kernel
theorem dX8_remove_141 : decode cX8_remove 141 = .ok (.aload_n 0, 1) := by decide +kernel
theorem dX8_remove_142 : decode cX8_remove 142 = .ok (.iload 4, 2) := by decide +kernel
theorem dX8_remove_144 : decode cX8_remove 144 = .ok (.iload_n 3, 1) := by decide +kernel
theorem dX8_remove_145 : decode cX8_remove 145 = .ok (.iload 6, 2) := by decide +kernel
theorem dX8_remove_147 : decode cX8_remove 147 = .ok (.invokevirtual 120, 3) := by decide +kernel
theorem dX8_remove_150 : decode cX8_remove 150 = .ok (.istore 5, 2) := by decide +kernel
theorem dX8_remove_152 : decode cX8_remove 152 = .ok (.iinc 4 1, 3) := by decide +kernel
theorem dX8_remove_155 : decode cX8_remove 155 = .ok (.iload 6, 2) := by decide +kernel
theorem dX8_remove_157 : decode cX8_remove 157 = .ok (.istore_n 3, 1) := by decide +kernel
theorem dX8_remove_158 : decode cX8_remove 158 = .ok (.goto (-63), 3) := by decide +kernel
theorem dX8_remove_161 : decode cX8_remove 161 = .ok (.aload_n 0, 1) := by decide +kernel
theorem dX8_remove_162 : decode cX8_remove 162 = .ok (.getfield 16, 3) := by decide +kernel
theorem dX8_remove_165 : decode cX8_remove 165 = .ok (.iconst 1, 1) := by decide +kernel
theorem dX8_remove_166 : decode cX8_remove 166 = .ok (.if_icmp .le 34, 3) := by decide +kernel
theorem dX8_remove_169 : decode cX8_remove 169 = .ok (.aload_n 0, 1) := by decide +kernel
theorem dX8_remove_170 : decode cX8_remove 170 = .ok (.getfield 20, 3) := by decide +kernel
theorem dX8_remove_173 : decode cX8_remove 173 = .ok (.bipush 64, 2) := by decide +kernel
theorem dX8_remove_175 : decode cX8_remove 175 = .ok (.aload_n 0, 1) := by decide +kernel
theorem dX8_remove_176 : decode cX8_remove 176 = .ok (.getfield 16, 3) := by decide +kernel
theorem dX8_remove_179 : decode cX8_remove 179 = .ok (.iconst 1, 1) := by decide +kernel
theorem dX8_remove_180 : decode cX8_remove 180 = .ok (.isub, 1) := by decide +kernel
theorem dX8_remove_181 : decode cX8_remove 181 = .ok (.imul, 1) := by decide +kernel
theorem dX8_remove_182 : decode cX8_remove 182 = .ok (.iaload, 1) := by decide +kernel
theorem dX8_remove_183 : decode cX8_remove 183 = .ok (.iconst 1, 1) := by decide +kernel
theorem dX8_remove_184 : decode cX8_remove 184 = .ok (.if_icmp .ne 16, 3) := by decide +kernel
theorem dX8_remove_187 : decode cX8_remove 187 = .ok (.aload_n 0, 1) := by decide +kernel
theorem dX8_remove_188 : decode cX8_remove 188 = .ok (.dup, 1) := by decide +kernel
theorem dX8_remove_189 : decode cX8_remove 189 = .ok (.getfield 16, 3) := by decide +kernel
theorem dX8_remove_192 : decode cX8_remove 192 = .ok (.iconst 1, 1) := by decide +kernel
theorem dX8_remove_193 : decode cX8_remove 193 = .ok (.isub, 1) := by decide +kernel
theorem dX8_remove_194 : decode cX8_remove 194 = .ok (.putfield 16, 3) := by decide +kernel
theorem dX8_remove_197 : decode cX8_remove 197 = .ok (.goto (-36), 3) := by decide +kernel
theorem dX8_remove_200 : decode cX8_remove 200 = .ok (.aload_n 0, 1) := by decide +kernel
theorem dX8_remove_201 : decode cX8_remove 201 = .ok (.invokevirtual 87, 3) := by decide +kernel
theorem dX8_remove_204 : decode cX8_remove 204 = .ok (.iconst 1, 1) := by decide +kernel
theorem dX8_remove_205 : decode cX8_remove 205 = .ok (.ireturn, 1) := by decide +kernel
theorem dX8_get_0 : decode cX8_get 0 = .ok (.aload_n 0, 1) := by decide +kernel
theorem dX8_get_1 : decode cX8_get 1 = .ok (.iload_n 1, 1) := by decide +kernel
theorem dX8_get_2 : decode cX8_get 2 = .ok (.invokevirtual 105, 3) := by decide +kernel
theorem dX8_get_5 : decode cX8_get 5 = .ok (.istore_n 2, 1) := by decide +kernel
theorem dX8_get_6 : decode cX8_get 6 = .ok (.iload_n 2, 1) := by decide +kernel
theorem dX8_get_7 : decode cX8_get 7 = .ok (.ifCond .ge 7, 3) := by decide +kernel
theorem dX8_get_10 : decode cX8_get 10 = .ok (.iconst 0, 1) := by decide +kernel
theorem dX8_get_11 : decode cX8_get 11 = .ok (.goto 9, 3) := by decide +kernel
theorem dX8_get_14 : decode cX8_get 14 = .ok (.aload_n 0, 1) := by decide +kernel
theorem dX8_get_15 : decode cX8_get 15 = .ok (.getfield 13, 3) := by decide +kernel
theorem dX8_get_18 : decode cX8_get 18 = .ok (.iload_n 2, 1) := by decide +kernel
theorem dX8_get_19 : decode cX8_get 19 = .ok (.iaload, 1) := by decide +kernel
theorem dX8_get_20 : decode cX8_get 20 = .ok (.ireturn, 1) := by decide +kernel
theorem dX8_size_0 : decode cX8_size 0 = .ok (.aload_n 0, 1) := by decide +kernel
theorem dX8_size_1 : decode cX8_size 1 = .ok (.getfield 90, 3) := by decide +kernel
theorem dX8_size_4 : decode cX8_size 4 = .ok (.ireturn, 1) := by decide +kernel
theorem dX8_height_0 : decode cX8_height 0 = .ok (.aload_n 0, 1) := by decide +kernel
theorem dX8_height_1 : decode cX8_height 1 = .ok (.getfield 16, 3) := by decide +kernel
theorem dX8_height_4 : decode cX8_height 4 = .ok (.ireturn, 1) := by decide +kernel
theorem dX8_within_0 : decode cX8_within 0 = .ok (.iconst 0, 1) := by decide +kernel
theorem dX8_within_1 : decode cX8_within 1 = .ok (.istore_n 3, 1) := by decide +kernel
theorem dX8_within_2 : decode cX8_within 2 = .ok (.iconst 0, 1) := by decide +kernel
theorem dX8_within_3 : decode cX8_within 3 = .ok (.istore 4, 2) := by decide +kernel
theorem dX8_within_5 : decode cX8_within 5 = .ok (.iload 4, 2) := by decide +kernel
theorem dX8_within_7 : decode cX8_within 7 = .ok (.aload_n 0, 1) := by decide +kernel
theorem dX8_within_8 : decode cX8_within 8 = .ok (.getfield 90, 3) := by decide +kernel
theorem dX8_within_11 : decode cX8_within 11 = .ok (.if_icmp .ge 39, 3) := by decide +kernel
theorem dX8_within_14 : decode cX8_within 14 = .ok (.aload_n 0, 1) := by decide +kernel
theorem dX8_within_15 : decode cX8_within 15 = .ok (.getfield 7, 3) := by decide +kernel
theorem dX8_within_18 : decode cX8_within 18 = .ok (.iload 4, 2) := by decide +kernel
theorem dX8_within_20 : decode cX8_within 20 = .ok (.iaload, 1) := by decide +kernel
theorem dX8_within_21 : decode cX8_within 21 = .ok (.iload_n 1, 1) := by decide +kernel
theorem dX8_within_22 : decode cX8_within 22 = .ok (.if_icmp .lt 20, 3) := by decide +kernel
theorem dX8_within_25 : decode cX8_within 25 = .ok (.aload_n 0, 1) := by decide +kernel
theorem dX8_within_26 : decode cX8_within 26 = .ok (.getfield 7, 3) := by decide +kernel
theorem dX8_within_29 : decode cX8_within 29 = .ok (.iload 4, 2) := by decide +kernel
theorem dX8_within_31 : decode cX8_within 31 = .ok (.iaload, 1) := by decide +kernel
theorem dX8_within_32 : decode cX8_within 32 = .ok (.iload_n 2, 1) := by decide +kernel
theorem dX8_within_33 : decode cX8_within 33 = .ok (.if_icmp .gt 9, 3) := by decide +kernel
theorem dX8_within_36 : decode cX8_within 36 = .ok (.iload_n 3, 1) := by decide +kernel
theorem dX8_within_37 : decode cX8_within 37 = .ok (.iconst 1, 1) := by decide +kernel
theorem dX8_within_38 : decode cX8_within 38 = .ok (.iadd, 1) := by decide +kernel
theorem dX8_within_39 : decode cX8_within 39 = .ok (.goto 4, 3) := by decide +kernel
theorem dX8_within_42 : decode cX8_within 42 = .ok (.iload_n 3, 1) := by decide +kernel
theorem dX8_within_43 : decode cX8_within 43 = .ok (.istore_n 3, 1) := by decide +kernel
theorem dX8_within_44 : decode cX8_within 44 = .ok (.iinc 4 1, 3) := by decide +kernel
theorem dX8_within_47 : decode cX8_within 47 = .ok (.goto (-42), 3) := by decide +kernel
theorem dX8_within_50 : decode cX8_within 50 = .ok (.iload_n 3, 1) := by decide +kernel
theorem dX8_within_51 : decode cX8_within 51 = .ok (.ireturn, 1) := by decide +kernel
theorem dX8_add_0 : decode cX8_add 0 = .ok (.iload_n 0, 1) := by decide +kernel
theorem dX8_add_1 : decode cX8_add 1 = .ok (.iload_n 1, 1) := by decide +kernel
theorem dX8_add_2 : decode cX8_add 2 = .ok (.ixor, 1) := by decide +kernel
theorem dX8_add_3 : decode cX8_add 3 = .ok (.ldc 124, 2) := by decide +kernel
theorem dX8_add_5 : decode cX8_add 5 = .ok (.imul, 1) := by decide +kernel
theorem dX8_add_6 : decode cX8_add 6 = .ok (.istore_n 2, 1) := by decide +kernel
theorem dX8_add_7 : decode cX8_add 7 = .ok (.iload_n 2, 1) := by decide +kernel
theorem dX8_add_8 : decode cX8_add 8 = .ok (.iload_n 2, 1) := by decide +kernel
theorem dX8_add_9 : decode cX8_add 9 = .ok (.bipush 15, 2) := by decide +kernel
theorem dX8_add_11 : decode cX8_add 11 = .ok (.iushr, 1) := by decide +kernel
theorem dX8_add_12 : decode cX8_add 12 = .ok (.ixor, 1) := by decide +kernel
theorem dX8_add_13 : decode cX8_add 13 = .ok (.ireturn, 1) := by decide +kernel
theorem dX8_work_0 : decode cX8_work 0 = .ok (.iconst 0, 1) := by decide +kernel
theorem dX8_work_1 : decode cX8_work 1 = .ok (.istore_n 1, 1) := by decide +kernel
theorem dX8_work_2 : decode cX8_work 2 = .ok (.iload_n 1, 1) := by decide +kernel
theorem dX8_work_3 : decode cX8_work 3 = .ok (.aload_n 0, 1) := by decide +kernel
theorem dX8_work_4 : decode cX8_work 4 = .ok (.getfield 16, 3) := by decide +kernel
theorem dX8_work_7 : decode cX8_work 7 = .ok (.if_icmp .ge 55, 3) := by decide +kernel
theorem dX8_work_10 : decode cX8_work 10 = .ok (.iconst 0, 1) := by decide +kernel
theorem dX8_work_11 : decode cX8_work 11 = .ok (.istore_n 2, 1) := by decide +kernel
theorem dX8_work_12 : decode cX8_work 12 = .ok (.iconst 0, 1) := by decide +kernel
theorem dX8_work_13 : decode cX8_work 13 = .ok (.istore_n 3, 1) := by decide +kernel
theorem dX8_work_14 : decode cX8_work 14 = .ok (.iload_n 3, 1) := by decide +kernel
theorem dX8_work_15 : decode cX8_work 15 = .ok (.aload_n 0, 1) := by decide +kernel
theorem dX8_work_16 : decode cX8_work 16 = .ok (.getfield 23, 3) := by decide +kernel
theorem dX8_work_19 : decode cX8_work 19 = .ok (.iload_n 1, 1) := by decide +kernel
theorem dX8_work_20 : decode cX8_work 20 = .ok (.iaload, 1) := by decide +kernel
theorem dX8_work_21 : decode cX8_work 21 = .ok (.if_icmp .ge 35, 3) := by decide +kernel
theorem dX8_work_24 : decode cX8_work 24 = .ok (.bipush 64, 2) := by decide +kernel
theorem dX8_work_26 : decode cX8_work 26 = .ok (.iload_n 1, 1) := by decide +kernel
theorem dX8_work_27 : decode cX8_work 27 = .ok (.imul, 1) := by decide +kernel
theorem dX8_work_28 : decode cX8_work 28 = .ok (.iload_n 3, 1) := by decide +kernel
theorem dX8_work_29 : decode cX8_work 29 = .ok (.iadd, 1) := by decide +kernel
theorem dX8_work_30 : decode cX8_work 30 = .ok (.istore 4, 2) := by decide +kernel
theorem dX8_work_32 : decode cX8_work 32 = .ok (.aload_n 0, 1) := by decide +kernel
theorem dX8_work_33 : decode cX8_work 33 = .ok (.iload_n 1, 1) := by decide +kernel
theorem dX8_work_34 : decode cX8_work 34 = .ok (.iload 4, 2) := by decide +kernel
theorem dX8_work_36 : decode cX8_work 36 = .ok (.iload_n 2, 1) := by decide +kernel
theorem dX8_work_37 : decode cX8_work 37 = .ok (.invokevirtual 125, 3) := by decide +kernel
theorem dX8_work_40 : decode cX8_work 40 = .ok (.iload_n 2, 1) := by decide +kernel
theorem dX8_work_41 : decode cX8_work 41 = .ok (.aload_n 0, 1) := by decide +kernel
theorem dX8_work_42 : decode cX8_work 42 = .ok (.getfield 20, 3) := by decide +kernel
theorem dX8_work_45 : decode cX8_work 45 = .ok (.iload 4, 2) := by decide +kernel
theorem dX8_work_47 : decode cX8_work 47 = .ok (.iaload, 1) := by decide +kernel
theorem dX8_work_48 : decode cX8_work 48 = .ok (.iadd, 1) := by decide +kernel
theorem dX8_work_49 : decode cX8_work 49 = .ok (.istore_n 2, 1) := by decide +kernel
theorem dX8_work_50 : decode cX8_work 50 = .ok (.iinc 3 1, 3) := by decide +kernel
theorem dX8_work_53 : decode cX8_work 53 = .ok (.goto (-39), 3) := by decide +kernel
theorem dX8_work_56 : decode cX8_work 56 = .ok (.iinc 1 1, 3) := by decide +kernel
theorem dX8_work_59 : decode cX8_work 59 = .ok (.goto (-57), 3) := by decide +kernel
theorem dX8_work_62 : decode cX8_work 62 = .ok (.return_, 1) := by decide +kernel
theorem dX8_workNode_0 : decode cX8_workNode 0 = .ok (.iconst 1, 1) := by decide +kernel
theorem dX8_workNode_1 : decode cX8_workNode 1 = .ok (.iload_n 1, 1) := by decide +kernel
theorem dX8_workNode_2 : decode cX8_workNode 2 = .ok (.ifCond .ne 7, 3) := by decide +kernel
theorem dX8_workNode_5 : decode cX8_workNode 5 = .ok (.iconst 1, 1) := by decide +kernel
theorem dX8_workNode_6 : decode cX8_workNode 6 = .ok (.goto 4, 3) := by decide +kernel
theorem dX8_workNode_9 : decode cX8_workNode 9 = .ok (.iconst 2, 1) := by decide +kernel
theorem dX8_workNode_10 : decode cX8_workNode 10 = .ok (.invokestatic 128, 3) := by decide +kernel
theorem dX8_workNode_13 : decode cX8_workNode 13 = .ok (.aload_n 0, 1) := by decide +kernel
theorem dX8_workNode_14 : decode cX8_workNode 14 = .ok (.getfield 20, 3) := by decide +kernel
theorem dX8_workNode_17 : decode cX8_workNode 17 = .ok (.iload_n 2, 1) := by decide +kernel
theorem dX8_workNode_18 : decode cX8_workNode 18 = .ok (.iaload, 1) := by decide +kernel
theorem dX8_workNode_19 : decode cX8_workNode 19 = .ok (.invokestatic 128, 3) := by decide +kernel
theorem dX8_workNode_22 : decode cX8_workNode 22 = .ok (.istore 4, 2) := by decide +kernel
theorem dX8_workNode_24 : decode cX8_workNode 24 = .ok (.aload_n 0, 1) := by decide +kernel
theorem dX8_workNode_25 : decode cX8_workNode 25 = .ok (.getfield 29, 3) := by decide +kernel
theorem dX8_workNode_28 : decode cX8_workNode 28 = .ok (.iload_n 2, 1) := by decide +kernel
theorem dX8_workNode_29 : decode cX8_workNode 29 = .ok (.iload_n 1, 1) := by decide +kernel
theorem dX8_workNode_30 : decode cX8_workNode 30 = .ok (.ifCond .ne 7, 3) := by decide +kernel
theorem dX8_workNode_33 : decode cX8_workNode 33 = .ok (.iload_n 3, 1) := by decide +kernel
theorem dX8_workNode_34 : decode cX8_workNode 34 = .ok (.goto 19, 3) := by decide +kernel
theorem dX8_workNode_37 : decode cX8_workNode 37 = .ok (.aload_n 0, 1) := by decide +kernel
theorem dX8_workNode_38 : decode cX8_workNode 38 = .ok (.getfield 29, 3) := by decide +kernel
theorem dX8_workNode_41 : decode cX8_workNode 41 = .ok (.iload_n 2, 1) := by decide +kernel
theorem dX8_workNode_42 : decode cX8_workNode 42 = .ok (.iload_n 2, 1) := by decide +kernel
theorem dX8_workNode_43 : decode cX8_workNode 43 = .ok (.bipush 64, 2) := by decide +kernel
theorem dX8_workNode_45 : decode cX8_workNode 45 = .ok (.irem, 1) := by decide +kernel
theorem dX8_workNode_46 : decode cX8_workNode 46 = .ok (.isub, 1) := by decide +kernel
theorem dX8_workNode_47 : decode cX8_workNode 47 = .ok (.bipush 64, 2) := by decide +kernel
theorem dX8_workNode_49 : decode cX8_workNode 49 = .ok (.isub, 1) := by decide +kernel
theorem dX8_workNode_50 : decode cX8_workNode 50 = .ok (.iload_n 3, 1) := by decide +kernel
theorem dX8_workNode_51 : decode cX8_workNode 51 = .ok (.iadd, 1) := by decide +kernel
theorem dX8_workNode_52 : decode cX8_workNode 52 = .ok (.iaload, 1) := by decide +kernel
theorem dX8_workNode_53 : decode cX8_workNode 53 = .ok (.iastore, 1) := by decide +kernel
theorem dX8_workNode_54 : decode cX8_workNode 54 = .ok (.aload_n 0, 1) := by decide +kernel
theorem dX8_workNode_55 : decode cX8_workNode 55 = .ok (.getfield 32, 3) := by decide +kernel
theorem dX8_workNode_58 : decode cX8_workNode 58 = .ok (.iload_n 2, 1) := by decide +kernel
theorem dX8_workNode_59 : decode cX8_workNode 59 = .ok (.iconst 0, 1) := by decide +kernel
theorem dX8_workNode_60 : decode cX8_workNode 60 = .ok (.iastore, 1) := by decide +kernel
theorem dX8_workNode_61 : decode cX8_workNode 61 = .ok (.iload_n 3, 1) := by decide +kernel
theorem dX8_workNode_62 : decode cX8_workNode 62 = .ok (.istore 5, 2) := by decide +kernel
theorem dX8_workNode_64 : decode cX8_workNode 64 = .ok (.iload 5, 2) := by decide +kernel
theorem dX8_workNode_66 : decode cX8_workNode 66 = .ok (.iload_n 3, 1) := by decide +kernel
theorem dX8_workNode_67 : decode cX8_workNode 67 = .ok (.aload_n 0, 1) := by decide +kernel
theorem dX8_workNode_68 : decode cX8_workNode 68 = .ok (.getfield 20, 3) := by decide +kernel
theorem dX8_workNode_71 : decode cX8_workNode 71 = .ok (.iload_n 2, 1) := by decide +kernel
theorem dX8_workNode_72 : decode cX8_workNode 72 = .ok (.iaload, 1) := by decide +kernel
theorem dX8_workNode_73 : decode cX8_workNode 73 = .ok (.iadd, 1) := by decide +kernel
theorem dX8_workNode_74 : decode cX8_workNode 74 = .ok (.if_icmp .ge 130, 3) := by decide +kernel
theorem dX8_workNode_77 : decode cX8_workNode 77 = .ok (.iload_n 1, 1) := by decide +kernel
theorem dX8_workNode_78 : decode cX8_workNode 78 = .ok (.ifCond .ne 8, 3) := by decide +kernel
theorem dX8_workNode_81 : decode cX8_workNode 81 = .ok (.iload 5, 2) := by decide +kernel
theorem dX8_workNode_83 : decode cX8_workNode 83 = .ok (.goto 15, 3) := by decide +kernel
theorem dX8_workNode_86 : decode cX8_workNode 86 = .ok (.iload_n 2, 1) := by decide +kernel
theorem dX8_workNode_87 : decode cX8_workNode 87 = .ok (.iload_n 2, 1) := by decide +kernel
theorem dX8_workNode_88 : decode cX8_workNode 88 = .ok (.bipush 64, 2) := by decide +kernel
theorem dX8_workNode_90 : decode cX8_workNode 90 = .ok (.irem, 1) := by decide +kernel
theorem dX8_workNode_91 : decode cX8_workNode 91 = .ok (.isub, 1) := by decide +kernel
theorem dX8_workNode_92 : decode cX8_workNode 92 = .ok (.bipush 64, 2) := by decide +kernel
theorem dX8_workNode_94 : decode cX8_workNode 94 = .ok (.isub, 1) := by decide +kernel
theorem dX8_workNode_95 : decode cX8_workNode 95 = .ok (.iload 5, 2) := by decide +kernel
theorem dX8_workNode_97 : decode cX8_workNode 97 = .ok (.iadd, 1) := by decide +kernel
theorem dX8_workNode_98 : decode cX8_workNode 98 = .ok (.istore 6, 2) := by decide +kernel
theorem dX8_workNode_100 : decode cX8_workNode 100 = .ok (.iload_n 1, 1) := by decide +kernel
theorem dX8_workNode_101 : decode cX8_workNode 101 = .ok (.ifCond .ne 30, 3) := by decide +kernel
theorem dX8_workNode_104 : decode cX8_workNode 104 = .ok (.iload 4, 2) := by decide +kernel
theorem dX8_workNode_106 : decode cX8_workNode 106 = .ok (.aload_n 0, 1) := by decide +kernel
theorem dX8_workNode_107 : decode cX8_workNode 107 = .ok (.getfield 7, 3) := by decide +kernel
theorem dX8_workNode_110 : decode cX8_workNode 110 = .ok (.iload 6, 2) := by decide +kernel
theorem dX8_workNode_112 : decode cX8_workNode 112 = .ok (.iaload, 1) := by decide +kernel
theorem dX8_workNode_113 : decode cX8_workNode 113 = .ok (.invokestatic 128, 3) := by decide +kernel
theorem dX8_workNode_116 : decode cX8_workNode 116 = .ok (.aload_n 0, 1) := by decide +kernel
theorem dX8_workNode_117 : decode cX8_workNode 117 = .ok (.getfield 13, 3) := by decide +kernel
theorem dX8_workNode_120 : decode cX8_workNode 120 = .ok (.iload 6, 2) := by decide +kernel
theorem dX8_workNode_122 : decode cX8_workNode 122 = .ok (.iaload, 1) := by decide +kernel
theorem dX8_workNode_123 : decode cX8_workNode 123 = .ok (.invokestatic 128, 3) := by decide +kernel
theorem dX8_workNode_126 : decode cX8_workNode 126 = .ok (.istore 4, 2) := by decide +kernel
theorem dX8_workNode_128 : decode cX8_workNode 128 = .ok (.goto 42, 3) := by decide +kernel
theorem dX8_workNode_131 : decode cX8_workNode 131 = .ok (.iload 4, 2) := by decide +kernel
theorem dX8_workNode_133 : decode cX8_workNode 133 = .ok (.aload_n 0, 1) := by decide +kernel
theorem dX8_workNode_134 : decode cX8_workNode 134 = .ok (.getfield 7, 3) := by decide +kernel
theorem dX8_workNode_137 : decode cX8_workNode 137 = .ok (.aload_n 0, 1) := by decide +kernel
theorem dX8_workNode_138 : decode cX8_workNode 138 = .ok (.getfield 29, 3) := by decide +kernel
theorem dX8_workNode_141 : decode cX8_workNode 141 = .ok (.iload 6, 2) := by decide +kernel
theorem dX8_workNode_143 : decode cX8_workNode 143 = .ok (.iaload, 1) := by decide +kernel
theorem dX8_workNode_144 : decode cX8_workNode 144 = .ok (.iaload, 1) := by decide +kernel
theorem dX8_workNode_145 : decode cX8_workNode 145 = .ok (.invokestatic 128, 3) := by decide +kernel
theorem dX8_workNode_148 : decode cX8_workNode 148 = .ok (.aload_n 0, 1) := by decide +kernel
theorem dX8_workNode_149 : decode cX8_workNode 149 = .ok (.getfield 26, 3) := by decide +kernel
theorem dX8_workNode_152 : decode cX8_workNode 152 = .ok (.iload 6, 2) := by decide +kernel
theorem dX8_workNode_154 : decode cX8_workNode 154 = .ok (.iaload, 1) := by decide +kernel
theorem dX8_workNode_155 : decode cX8_workNode 155 = .ok (.invokestatic 128, 3) := by decide +kernel
theorem dX8_workNode_158 : decode cX8_workNode 158 = .ok (.aload_n 0, 1) := by decide +kernel
theorem dX8_workNode_159 : decode cX8_workNode 159 = .ok (.getfield 32, 3) := by decide +kernel
theorem dX8_workNode_162 : decode cX8_workNode 162 = .ok (.iload 6, 2) := by decide +kernel
theorem dX8_workNode_164 : decode cX8_workNode 164 = .ok (.iaload, 1) := by decide +kernel
theorem dX8_workNode_165 : decode cX8_workNode 165 = .ok (.invokestatic 128, 3) := by decide +kernel
theorem dX8_workNode_168 : decode cX8_workNode 168 = .ok (.istore 4, 2) := by decide +kernel
theorem dX8_workNode_170 : decode cX8_workNode 170 = .ok (.aload_n 0, 1) := by decide +kernel
theorem dX8_workNode_171 : decode cX8_workNode 171 = .ok (.getfield 32, 3) := by decide +kernel
theorem dX8_workNode_174 : decode cX8_workNode 174 = .ok (.iload_n 2, 1) := by decide +kernel
theorem dX8_workNode_175 : decode cX8_workNode 175 = .ok (.aload_n 0, 1) := by decide +kernel
theorem dX8_workNode_176 : decode cX8_workNode 176 = .ok (.getfield 32, 3) := by decide +kernel
theorem dX8_workNode_179 : decode cX8_workNode 179 = .ok (.iload_n 2, 1) := by decide +kernel
theorem dX8_workNode_180 : decode cX8_workNode 180 = .ok (.iaload, 1) := by decide +kernel
theorem dX8_workNode_181 : decode cX8_workNode 181 = .ok (.iload_n 1, 1) := by decide +kernel
theorem dX8_workNode_182 : decode cX8_workNode 182 = .ok (.ifCond .ne 7, 3) := by decide +kernel
theorem dX8_workNode_185 : decode cX8_workNode 185 = .ok (.iconst 1, 1) := by decide +kernel
theorem dX8_workNode_186 : decode cX8_workNode 186 = .ok (.goto 10, 3) := by decide +kernel
theorem dX8_workNode_189 : decode cX8_workNode 189 = .ok (.aload_n 0, 1) := by decide +kernel
theorem dX8_workNode_190 : decode cX8_workNode 190 = .ok (.getfield 32, 3) := by decide +kernel
theorem dX8_workNode_193 : decode cX8_workNode 193 = .ok (.iload 6, 2) := by decide +kernel
theorem dX8_workNode_195 : decode cX8_workNode 195 = .ok (.iaload, 1) := by decide +kernel
theorem dX8_workNode_196 : decode cX8_workNode 196 = .ok (.iadd, 1) := by decide +kernel
theorem dX8_workNode_197 : decode cX8_workNode 197 = .ok (.iastore, 1) := by decide +kernel
theorem dX8_workNode_198 : decode cX8_workNode 198 = .ok (.iinc 5 1, 3) := by decide +kernel
theorem dX8_workNode_201 : decode cX8_workNode 201 = .ok (.goto (-137), 3) := by decide +kernel
theorem dX8_workNode_204 : decode cX8_workNode 204 = .ok (.aload_n 0, 1) := by decide +kernel
theorem dX8_workNode_205 : decode cX8_workNode 205 = .ok (.getfield 26, 3) := by decide +kernel
theorem dX8_workNode_208 : decode cX8_workNode 208 = .ok (.iload_n 2, 1) := by decide +kernel
theorem dX8_workNode_209 : decode cX8_workNode 209 = .ok (.iload 4, 2) := by decide +kernel
theorem dX8_workNode_211 : decode cX8_workNode 211 = .ok (.iastore, 1) := by decide +kernel
theorem dX8_workNode_212 : decode cX8_workNode 212 = .ok (.return_, 1) := by decide +kernel
theorem dX8_root_0 : decode cX8_root 0 = .ok (.aload_n 0, 1) := by decide +kernel
theorem dX8_root_1 : decode cX8_root 1 = .ok (.getfield 26, 3) := by decide +kernel
theorem dX8_root_4 : decode cX8_root 4 = .ok (.bipush 64, 2) := by decide +kernel
theorem dX8_root_6 : decode cX8_root 6 = .ok (.aload_n 0, 1) := by decide +kernel
theorem dX8_root_7 : decode cX8_root 7 = .ok (.getfield 16, 3) := by decide +kernel
theorem dX8_root_10 : decode cX8_root 10 = .ok (.iconst 1, 1) := by decide +kernel
theorem dX8_root_11 : decode cX8_root 11 = .ok (.isub, 1) := by decide +kernel
theorem dX8_root_12 : decode cX8_root 12 = .ok (.imul, 1) := by decide +kernel
theorem dX8_root_13 : decode cX8_root 13 = .ok (.iaload, 1) := by decide +kernel
theorem dX8_root_14 : decode cX8_root 14 = .ok (.ireturn, 1) := by decide +kernel
theorem dX8_digest_0 : decode cX8_digest 0 = .ok (.iload_n 1, 1) := by decide +kernel
theorem dX8_digest_1 : decode cX8_digest 1 = .ok (.iload_n 2, 1) := by decide +kernel
theorem dX8_digest_2 : decode cX8_digest 2 = .ok (.invokestatic 128, 3) := by decide +kernel
theorem dX8_digest_5 : decode cX8_digest 5 = .ok (.iload_n 3, 1) := by decide +kernel
theorem dX8_digest_6 : decode cX8_digest 6 = .ok (.invokestatic 128, 3) := by decide +kernel
theorem dX8_digest_9 : decode cX8_digest 9 = .ok (.iload 4, 2) := by decide +kernel
theorem dX8_digest_11 : decode cX8_digest 11 = .ok (.invokestatic 128, 3) := by decide +kernel
theorem dX8_digest_14 : decode cX8_digest 14 = .ok (.ireturn, 1) := by decide +kernel
theorem dX8_tell_0 : decode cX8_tell 0 = .ok (.aload_n 0, 1) := by decide +kernel
theorem dX8_tell_1 : decode cX8_tell 1 = .ok (.getfield 35, 3) := by decide +kernel
theorem dX8_tell_4 : decode cX8_tell 4 = .ok (.aload_n 0, 1) := by decide +kernel
theorem dX8_tell_5 : decode cX8_tell 5 = .ok (.getfield 131, 3) := by decide +kernel
theorem dX8_tell_8 : decode cX8_tell 8 = .ok (.iload_n 1, 1) := by decide +kernel
theorem dX8_tell_9 : decode cX8_tell 9 = .ok (.iastore, 1) := by decide +kernel
theorem dX8_tell_10 : decode cX8_tell 10 = .ok (.aload_n 0, 1) := by decide +kernel
theorem dX8_tell_11 : decode cX8_tell 11 = .ok (.dup, 1) := by decide +kernel
theorem dX8_tell_12 : decode cX8_tell 12 = .ok (.getfield 131, 3) := by decide +kernel
theorem dX8_tell_15 : decode cX8_tell 15 = .ok (.iconst 1, 1) := by decide +kernel
theorem dX8_tell_16 : decode cX8_tell 16 = .ok (.iadd, 1) := by decide +kernel
theorem dX8_tell_17 : decode cX8_tell 17 = .ok (.putfield 131, 3) := by decide +kernel
theorem dX8_tell_20 : decode cX8_tell 20 = .ok (.return_, 1) := by decide +kernel
theorem dX8_isLeft_0 : decode cX8_isLeft 0 = .ok (.lload_n 0, 1) := by decide +kernel
theorem dX8_isLeft_1 : decode cX8_isLeft 1 = .ok (.iload 5, 2) := by decide +kernel
theorem dX8_isLeft_3 : decode cX8_isLeft 3 = .ok (.i2l, 1) := by decide +kernel
theorem dX8_isLeft_4 : decode cX8_isLeft 4 = .ok (.lcmp, 1) := by decide +kernel
theorem dX8_isLeft_5 : decode cX8_isLeft 5 = .ok (.ifCond .gt 34, 3) := by decide +kernel
theorem dX8_isLeft_8 : decode cX8_isLeft 8 = .ok (.lload_n 2, 1) := by decide +kernel
theorem dX8_isLeft_9 : decode cX8_isLeft 9 = .ok (.iload 4, 2) := by decide +kernel
theorem dX8_isLeft_11 : decode cX8_isLeft 11 = .ok (.i2l, 1) := by decide +kernel
theorem dX8_isLeft_12 : decode cX8_isLeft 12 = .ok (.lcmp, 1) := by decide +kernel
theorem dX8_isLeft_13 : decode cX8_isLeft 13 = .ok (.ifCond .le 26, 3) := by decide +kernel
theorem dX8_isLeft_16 : decode cX8_isLeft 16 = .ok (.iload 6, 2) := by decide +kernel
theorem dX8_isLeft_18 : decode cX8_isLeft 18 = .ok (.ifCond .eq 25, 3) := by decide +kernel
theorem dX8_isLeft_21 : decode cX8_isLeft 21 = .ok (.lload_n 0, 1) := by decide +kernel
theorem dX8_isLeft_22 : decode cX8_isLeft 22 = .ok (.iload 4, 2) := by decide +kernel
theorem dX8_isLeft_24 : decode cX8_isLeft 24 = .ok (.i2l, 1) := by decide +kernel
theorem dX8_isLeft_25 : decode cX8_isLeft 25 = .ok (.lcmp, 1) := by decide +kernel
theorem dX8_isLeft_26 : decode cX8_isLeft 26 = .ok (.ifCond .lt 17, 3) := by decide +kernel
theorem dX8_isLeft_29 : decode cX8_isLeft 29 = .ok (.lload_n 2, 1) := by decide +kernel
theorem dX8_isLeft_30 : decode cX8_isLeft 30 = .ok (.iload 5, 2) := by decide +kernel
theorem dX8_isLeft_32 : decode cX8_isLeft 32 = .ok (.i2l, 1) := by decide +kernel
theorem dX8_isLeft_33 : decode cX8_isLeft 33 = .ok (.lconst 1, 1) := by decide +kernel
theorem dX8_isLeft_34 : decode cX8_isLeft 34 = .ok (.ladd, 1) := by decide +kernel
theorem dX8_isLeft_35 : decode cX8_isLeft 35 = .ok (.lcmp, 1) := by decide +kernel
theorem dX8_isLeft_36 : decode cX8_isLeft 36 = .ok (.ifCond .gt 7, 3) := by decide +kernel
theorem dX8_isLeft_39 : decode cX8_isLeft 39 = .ok (.iconst 1, 1) := by decide +kernel
theorem dX8_isLeft_40 : decode cX8_isLeft 40 = .ok (.goto 4, 3) := by decide +kernel
theorem dX8_isLeft_43 : decode cX8_isLeft 43 = .ok (.iconst 0, 1) := by decide +kernel
theorem dX8_isLeft_44 : decode cX8_isLeft 44 = .ok (.ireturn, 1) := by decide +kernel
theorem dX8_firstChild_0 : decode cX8_firstChild 0 = .ok (.iconst 0, 1) := by decide +kernel
theorem dX8_firstChild_1 : decode cX8_firstChild 1 = .ok (.istore_n 3, 1) := by decide +kernel
theorem dX8_firstChild_2 : decode cX8_firstChild 2 = .ok (.iconst 0, 1) := by decide +kernel
theorem dX8_firstChild_3 : decode cX8_firstChild 3 = .ok (.istore 4, 2) := by decide +kernel
theorem dX8_firstChild_5 : decode cX8_firstChild 5 = .ok (.iload 4, 2) := by decide +kernel
theorem dX8_firstChild_7 : decode cX8_firstChild 7 = .ok (.iload_n 2, 1) := by decide +kernel
theorem dX8_firstChild_8 : decode cX8_firstChild 8 = .ok (.if_icmp .ge 24, 3) := by decide +kernel
theorem dX8_firstChild_11 : decode cX8_firstChild 11 = .ok (.iload_n 3, 1) := by decide +kernel
theorem dX8_firstChild_12 : decode cX8_firstChild 12 = .ok (.aload_n 0, 1) := by decide +kernel
theorem dX8_firstChild_13 : decode cX8_firstChild 13 = .ok (.getfield 20, 3) := by decide +kernel
theorem dX8_firstChild_16 : decode cX8_firstChild 16 = .ok (.bipush 64, 2) := by decide +kernel
theorem dX8_firstChild_18 : decode cX8_firstChild 18 = .ok (.iload_n 1, 1) := by decide +kernel
theorem dX8_firstChild_19 : decode cX8_firstChild 19 = .ok (.imul, 1) := by decide +kernel
theorem dX8_firstChild_20 : decode cX8_firstChild 20 = .ok (.iload 4, 2) := by decide +kernel
theorem dX8_firstChild_22 : decode cX8_firstChild 22 = .ok (.iadd, 1) := by decide +kernel
theorem dX8_firstChild_23 : decode cX8_firstChild 23 = .ok (.iaload, 1) := by decide +kernel
theorem dX8_firstChild_24 : decode cX8_firstChild 24 = .ok (.iadd, 1) := by decide +kernel
theorem dX8_firstChild_25 : decode cX8_firstChild 25 = .ok (.istore_n 3, 1) := by decide +kernel
theorem dX8_firstChild_26 : decode cX8_firstChild 26 = .ok (.iinc 4 1, 3) := by decide +kernel
theorem dX8_firstChild_29 : decode cX8_firstChild 29 = .ok (.goto (-24), 3) := by decide +kernel
theorem dX8_firstChild_32 : decode cX8_firstChild 32 = .ok (.iload_n 3, 1) := by decide +kernel
theorem dX8_firstChild_33 : decode cX8_firstChild 33 = .ok (.ireturn, 1) := by decide +kernel
theorem dX8_prove_0 : decode cX8_prove 0 = .ok (.iload_n 1, 1) := by decide +kernel
theorem dX8_prove_1 : decode cX8_prove 1 = .ok (.iload_n 2, 1) := by decide +kernel
theorem dX8_prove_2 : decode cX8_prove 2 = .ok (.if_icmp .le 5, 3) := by decide +kernel
theorem dX8_prove_5 : decode cX8_prove 5 = .ok (.iconst (-1), 1) := by decide +kernel
theorem dX8_prove_6 : decode cX8_prove 6 = .ok (.ireturn, 1) := by decide +kernel
theorem dX8_prove_7 : decode cX8_prove 7 = .ok (.aload_n 0, 1) := by decide +kernel
theorem dX8_prove_8 : decode cX8_prove 8 = .ok (.iconst 0, 1) := by decide +kernel
theorem dX8_prove_9 : decode cX8_prove 9 = .ok (.putfield 131, 3) := by decide +kernel
theorem dX8_prove_12 : decode cX8_prove 12 = .ok (.iconst 1, 1) := by decide +kernel
theorem dX8_prove_13 : decode cX8_prove 13 = .ok (.istore 4, 2) := by decide +kernel
theorem dX8_prove_15 : decode cX8_prove 15 = .ok (.aload_n 0, 1) := by decide +kernel
theorem dX8_prove_16 : decode cX8_prove 16 = .ok (.getfield 38, 3) := by decide +kernel
theorem dX8_prove_19 : decode cX8_prove 19 = .ok (.iconst 0, 1) := by decide +kernel
theorem dX8_prove_20 : decode cX8_prove 20 = .ok (.bipush 64, 2) := by decide +kernel
theorem dX8_prove_22 : decode cX8_prove 22 = .ok (.aload_n 0, 1) := by decide +kernel
theorem dX8_prove_23 : decode cX8_prove 23 = .ok (.getfield 16, 3) := by decide +kernel
theorem dX8_prove_26 : decode cX8_prove 26 = .ok (.iconst 1, 1) := by decide +kernel
theorem dX8_prove_27 : decode cX8_prove 27 = .ok (.isub, 1) := by decide +kernel
theorem dX8_prove_28 : decode cX8_prove 28 = .ok (.imul, 1) := by decide +kernel
theorem dX8_prove_29 : decode cX8_prove 29 = .ok (.iastore, 1) := by decide +kernel
theorem dX8_prove_30 : decode cX8_prove 30 = .ok (.aload_n 0, 1) := by decide +kernel
theorem dX8_prove_31 : decode cX8_prove 31 = .ok (.getfield 41, 3) := by decide +kernel
theorem dX8_prove_34 : decode cX8_prove 34 = .ok (.iconst 0, 1) := by decide +kernel
theorem dX8_prove_35 : decode cX8_prove 35 = .ok (.ldc2_w 134, 3) := by decide +kernel
theorem dX8_prove_38 : decode cX8_prove 38 = .ok (.lastore, 1) := by decide +kernel
theorem dX8_prove_39 : decode cX8_prove 39 = .ok (.aload_n 0, 1) := by decide +kernel
theorem dX8_prove_40 : decode cX8_prove 40 = .ok (.getfield 45, 3) := by decide +kernel
theorem dX8_prove_43 : decode cX8_prove 43 = .ok (.iconst 0, 1) := by decide +kernel
theorem dX8_prove_44 : decode cX8_prove 44 = .ok (.ldc2_w 136, 3) := by decide +kernel
theorem dX8_prove_47 : decode cX8_prove 47 = .ok (.lastore, 1) := by decide +kernel
theorem dX8_prove_48 : decode cX8_prove 48 = .ok (.iload 4, 2) := by decide +kernel
theorem dX8_prove_50 : decode cX8_prove 50 = .ok (.ifCond .le 123, 3) := by decide +kernel
theorem dX8_prove_53 : decode cX8_prove 53 = .ok (.iinc 4 (-1), 3) := by decide +kernel
theorem dX8_prove_56 : decode cX8_prove 56 = .ok (.aload_n 0, 1) := by decide +kernel
theorem dX8_prove_57 : decode cX8_prove 57 = .ok (.getfield 38, 3) := by decide +kernel
theorem dX8_prove_60 : decode cX8_prove 60 = .ok (.iload 4, 2) := by decide +kernel
theorem dX8_prove_62 : decode cX8_prove 62 = .ok (.iaload, 1) := by decide +kernel
theorem dX8_prove_63 : decode cX8_prove 63 = .ok (.istore 5, 2) := by decide +kernel
theorem dX8_prove_65 : decode cX8_prove 65 = .ok (.iload 5, 2) := by decide +kernel
theorem dX8_prove_67 : decode cX8_prove 67 = .ok (.bipush 64, 2) := by decide +kernel
theorem dX8_prove_69 : decode cX8_prove 69 = .ok (.aload_n 0, 1) := by decide +kernel
theorem dX8_prove_70 : decode cX8_prove 70 = .ok (.getfield 16, 3) := by decide +kernel
theorem dX8_prove_73 : decode cX8_prove 73 = .ok (.iconst 1, 1) := by decide +kernel
theorem dX8_prove_74 : decode cX8_prove 74 = .ok (.isub, 1) := by decide +kernel
theorem dX8_prove_75 : decode cX8_prove 75 = .ok (.imul, 1) := by decide +kernel
theorem dX8_prove_76 : decode cX8_prove 76 = .ok (.if_icmp .ne 7, 3) := by decide +kernel
theorem dX8_prove_79 : decode cX8_prove 79 = .ok (.iconst 1, 1) := by decide +kernel
theorem dX8_prove_80 : decode cX8_prove 80 = .ok (.goto 4, 3) := by decide +kernel
theorem dX8_prove_83 : decode cX8_prove 83 = .ok (.iconst 0, 1) := by decide +kernel
theorem dX8_prove_84 : decode cX8_prove 84 = .ok (.istore 6, 2) := by decide +kernel
theorem dX8_prove_86 : decode cX8_prove 86 = .ok (.iload 6, 2) := by decide +kernel
theorem dX8_prove_88 : decode cX8_prove 88 = .ok (.ifCond .ne 72, 3) := by decide +kernel
theorem dX8_prove_91 : decode cX8_prove 91 = .ok (.aload_n 0, 1) := by decide +kernel
theorem dX8_prove_92 : decode cX8_prove 92 = .ok (.getfield 41, 3) := by decide +kernel
theorem dX8_prove_95 : decode cX8_prove 95 = .ok (.iload 4, 2) := by decide +kernel
theorem dX8_prove_97 : decode cX8_prove 97 = .ok (.laload, 1) := by decide +kernel
theorem dX8_prove_98 : decode cX8_prove 98 = .ok (.aload_n 0, 1) := by decide +kernel
theorem dX8_prove_99 : decode cX8_prove 99 = .ok (.getfield 45, 3) := by decide +kernel
theorem dX8_prove_102 : decode cX8_prove 102 = .ok (.iload 4, 2) := by decide +kernel
theorem dX8_prove_104 : decode cX8_prove 104 = .ok (.laload, 1) := by decide +kernel
theorem dX8_prove_105 : decode cX8_prove 105 = .ok (.iload_n 1, 1) := by decide +kernel
theorem dX8_prove_106 : decode cX8_prove 106 = .ok (.iload_n 2, 1) := by decide +kernel
theorem dX8_prove_107 : decode cX8_prove 107 = .ok (.iload_n 3, 1) := by decide +kernel
theorem dX8_prove_108 : decode cX8_prove 108 = .ok (.invokestatic 138, 3) := by decide +kernel
theorem dX8_prove_111 : decode cX8_prove 111 = .ok (.ifCond .eq 49, 3) := by decide +kernel
theorem dX8_prove_114 : decode cX8_prove 114 = .ok (.aload_n 0, 1) := by decide +kernel
theorem dX8_prove_115 : decode cX8_prove 115 = .ok (.iconst 0, 1) := by decide +kernel
theorem dX8_prove_116 : decode cX8_prove 116 = .ok (.invokevirtual 142, 3) := by decide +kernel
theorem dX8_prove_119 : decode cX8_prove 119 = .ok (.aload_n 0, 1) := by decide +kernel
theorem dX8_prove_120 : decode cX8_prove 120 = .ok (.aload_n 0, 1) := by decide +kernel
theorem dX8_prove_121 : decode cX8_prove 121 = .ok (.getfield 7, 3) := by decide +kernel
theorem dX8_prove_124 : decode cX8_prove 124 = .ok (.aload_n 0, 1) := by decide +kernel
theorem dX8_prove_125 : decode cX8_prove 125 = .ok (.getfield 29, 3) := by decide +kernel
theorem dX8_prove_128 : decode cX8_prove 128 = .ok (.iload 5, 2) := by decide +kernel
theorem dX8_prove_130 : decode cX8_prove 130 = .ok (.iaload, 1) := by decide +kernel
theorem dX8_prove_131 : decode cX8_prove 131 = .ok (.iaload, 1) := by decide +kernel
theorem dX8_prove_132 : decode cX8_prove 132 = .ok (.invokevirtual 142, 3) := by decide +kernel
theorem dX8_prove_135 : decode cX8_prove 135 = .ok (.aload_n 0, 1) := by decide +kernel
theorem dX8_prove_136 : decode cX8_prove 136 = .ok (.aload_n 0, 1) := by decide +kernel
theorem dX8_prove_137 : decode cX8_prove 137 = .ok (.getfield 26, 3) := by decide +kernel
theorem dX8_prove_140 : decode cX8_prove 140 = .ok (.iload 5, 2) := by decide +kernel
theorem dX8_prove_142 : decode cX8_prove 142 = .ok (.iaload, 1) := by decide +kernel
theorem dX8_prove_143 : decode cX8_prove 143 = .ok (.invokevirtual 142, 3) := by decide +kernel
theorem dX8_prove_146 : decode cX8_prove 146 = .ok (.aload_n 0, 1) := by decide +kernel
theorem dX8_prove_147 : decode cX8_prove 147 = .ok (.aload_n 0, 1) := by decide +kernel
theorem dX8_prove_148 : decode cX8_prove 148 = .ok (.getfield 32, 3) := by decide +kernel
theorem dX8_prove_151 : decode cX8_prove 151 = .ok (.iload 5, 2) := by decide +kernel
theorem dX8_prove_153 : decode cX8_prove 153 = .ok (.iaload, 1) := by decide +kernel
theorem dX8_prove_154 : decode cX8_prove 154 = .ok (.invokevirtual 142, 3) := by decide +kernel
theorem dX8_prove_157 : decode cX8_prove 157 = .ok (.goto 13, 3) := by decide +kernel
theorem dX8_prove_160 : decode cX8_prove 160 = .ok (.aload_n 0, 1) := by decide +kernel
theorem dX8_prove_161 : decode cX8_prove 161 = .ok (.iload 5, 2) := by decide +kernel
theorem dX8_prove_163 : decode cX8_prove 163 = .ok (.iload 4, 2) := by decide +kernel
theorem dX8_prove_165 : decode cX8_prove 165 = .ok (.invokevirtual 145, 3) := by decide +kernel
theorem dX8_prove_168 : decode cX8_prove 168 = .ok (.istore 4, 2) := by decide +kernel
theorem dX8_prove_170 : decode cX8_prove 170 = .ok (.goto (-122), 3) := by decide +kernel
theorem dX8_prove_173 : decode cX8_prove 173 = .ok (.aload_n 0, 1) := by decide +kernel
theorem dX8_prove_174 : decode cX8_prove 174 = .ok (.getfield 131, 3) := by decide +kernel
theorem dX8_prove_177 : decode cX8_prove 177 = .ok (.ireturn, 1) := by decide +kernel
theorem dX8_tellNode_0 : decode cX8_tellNode 0 = .ok (.iload_n 1, 1) := by decide +kernel
theorem dX8_tellNode_1 : decode cX8_tellNode 1 = .ok (.bipush 64, 2) := by decide +kernel
theorem dX8_tellNode_3 : decode cX8_tellNode 3 = .ok (.idiv, 1) := by decide +kernel
theorem dX8_tellNode_4 : decode cX8_tellNode 4 = .ok (.istore_n 3, 1) := by decide +kernel
theorem dX8_tellNode_5 : decode cX8_tellNode 5 = .ok (.aload_n 0, 1) := by decide +kernel
theorem dX8_tellNode_6 : decode cX8_tellNode 6 = .ok (.getfield 20, 3) := by decide +kernel
theorem dX8_tellNode_9 : decode cX8_tellNode 9 = .ok (.iload_n 1, 1) := by decide +kernel
theorem dX8_tellNode_10 : decode cX8_tellNode 10 = .ok (.iaload, 1) := by decide +kernel
theorem dX8_tellNode_11 : decode cX8_tellNode 11 = .ok (.istore 4, 2) := by decide +kernel
theorem dX8_tellNode_13 : decode cX8_tellNode 13 = .ok (.aload_n 0, 1) := by decide +kernel
theorem dX8_tellNode_14 : decode cX8_tellNode 14 = .ok (.iload_n 3, 1) := by decide +kernel
theorem dX8_tellNode_15 : decode cX8_tellNode 15 = .ok (.iload_n 1, 1) := by decide +kernel
theorem dX8_tellNode_16 : decode cX8_tellNode 16 = .ok (.bipush 64, 2) := by decide +kernel
theorem dX8_tellNode_18 : decode cX8_tellNode 18 = .ok (.irem, 1) := by decide +kernel
theorem dX8_tellNode_19 : decode cX8_tellNode 19 = .ok (.invokevirtual 148, 3) := by decide +kernel
theorem dX8_tellNode_22 : decode cX8_tellNode 22 = .ok (.istore 5, 2) := by decide +kernel
theorem dX8_tellNode_24 : decode cX8_tellNode 24 = .ok (.aload_n 0, 1) := by decide +kernel
theorem dX8_tellNode_25 : decode cX8_tellNode 25 = .ok (.iload_n 3, 1) := by decide +kernel
theorem dX8_tellNode_26 : decode cX8_tellNode 26 = .ok (.ifCond .ne 7, 3) := by decide +kernel
theorem dX8_tellNode_29 : decode cX8_tellNode 29 = .ok (.iconst 1, 1) := by decide +kernel
theorem dX8_tellNode_30 : decode cX8_tellNode 30 = .ok (.goto 4, 3) := by decide +kernel
theorem dX8_tellNode_33 : decode cX8_tellNode 33 = .ok (.iconst 2, 1) := by decide +kernel
theorem dX8_tellNode_34 : decode cX8_tellNode 34 = .ok (.invokevirtual 142, 3) := by decide +kernel
theorem dX8_tellNode_37 : decode cX8_tellNode 37 = .ok (.aload_n 0, 1) := by decide +kernel
theorem dX8_tellNode_38 : decode cX8_tellNode 38 = .ok (.iload 4, 2) := by decide +kernel
theorem dX8_tellNode_40 : decode cX8_tellNode 40 = .ok (.invokevirtual 142, 3) := by decide +kernel
theorem dX8_tellNode_43 : decode cX8_tellNode 43 = .ok (.iload_n 3, 1) := by decide +kernel
theorem dX8_tellNode_44 : decode cX8_tellNode 44 = .ok (.ifCond .ne 47, 3) := by decide +kernel
theorem dX8_tellNode_47 : decode cX8_tellNode 47 = .ok (.iload 5, 2) := by decide +kernel
theorem dX8_tellNode_49 : decode cX8_tellNode 49 = .ok (.istore 6, 2) := by decide +kernel
theorem dX8_tellNode_51 : decode cX8_tellNode 51 = .ok (.iload 6, 2) := by decide +kernel
theorem dX8_tellNode_53 : decode cX8_tellNode 53 = .ok (.iload 5, 2) := by decide +kernel
theorem dX8_tellNode_55 : decode cX8_tellNode 55 = .ok (.iload 4, 2) := by decide +kernel
theorem dX8_tellNode_57 : decode cX8_tellNode 57 = .ok (.iadd, 1) := by decide +kernel
theorem dX8_tellNode_58 : decode cX8_tellNode 58 = .ok (.if_icmp .ge 31, 3) := by decide +kernel
theorem dX8_tellNode_61 : decode cX8_tellNode 61 = .ok (.aload_n 0, 1) := by decide +kernel
theorem dX8_tellNode_62 : decode cX8_tellNode 62 = .ok (.aload_n 0, 1) := by decide +kernel
theorem dX8_tellNode_63 : decode cX8_tellNode 63 = .ok (.getfield 7, 3) := by decide +kernel
theorem dX8_tellNode_66 : decode cX8_tellNode 66 = .ok (.iload 6, 2) := by decide +kernel
theorem dX8_tellNode_68 : decode cX8_tellNode 68 = .ok (.iaload, 1) := by decide +kernel
theorem dX8_tellNode_69 : decode cX8_tellNode 69 = .ok (.invokevirtual 142, 3) := by decide +kernel
theorem dX8_tellNode_72 : decode cX8_tellNode 72 = .ok (.aload_n 0, 1) := by decide +kernel
theorem dX8_tellNode_73 : decode cX8_tellNode 73 = .ok (.aload_n 0, 1) := by decide +kernel
theorem dX8_tellNode_74 : decode cX8_tellNode 74 = .ok (.getfield 13, 3) := by decide +kernel
theorem dX8_tellNode_77 : decode cX8_tellNode 77 = .ok (.iload 6, 2) := by decide +kernel
theorem dX8_tellNode_79 : decode cX8_tellNode 79 = .ok (.iaload, 1) := by decide +kernel
theorem dX8_tellNode_80 : decode cX8_tellNode 80 = .ok (.invokevirtual 142, 3) := by decide +kernel
theorem dX8_tellNode_83 : decode cX8_tellNode 83 = .ok (.iinc 6 1, 3) := by decide +kernel
theorem dX8_tellNode_86 : decode cX8_tellNode 86 = .ok (.goto (-35), 3) := by decide +kernel
theorem dX8_tellNode_89 : decode cX8_tellNode 89 = .ok (.iload_n 2, 1) := by decide +kernel
theorem dX8_tellNode_90 : decode cX8_tellNode 90 = .ok (.ireturn, 1) := by decide +kernel
theorem dX8_tellNode_91 : decode cX8_tellNode 91 = .ok (.aload_n 0, 1) := by decide +kernel
theorem dX8_tellNode_92 : decode cX8_tellNode 92 = .ok (.getfield 41, 3) := by decide +kernel
theorem dX8_tellNode_95 : decode cX8_tellNode 95 = .ok (.iload_n 2, 1) := by decide +kernel
theorem dX8_tellNode_96 : decode cX8_tellNode 96 = .ok (.laload, 1) := by decide +kernel
theorem dX8_tellNode_97 : decode cX8_tellNode 97 = .ok (.lstore 6, 2) := by decide +kernel
theorem dX8_tellNode_99 : decode cX8_tellNode 99 = .ok (.aload_n 0, 1) := by decide +kernel
theorem dX8_tellNode_100 : decode cX8_tellNode 100 = .ok (.getfield 45, 3) := by decide +kernel
theorem dX8_tellNode_103 : decode cX8_tellNode 103 = .ok (.iload_n 2, 1) := by decide +kernel
theorem dX8_tellNode_104 : decode cX8_tellNode 104 = .ok (.laload, 1) := by decide +kernel
theorem dX8_tellNode_105 : decode cX8_tellNode 105 = .ok (.lstore 8, 2) := by decide +kernel
theorem dX8_tellNode_107 : decode cX8_tellNode 107 = .ok (.iload_n 2, 1) := by decide +kernel
theorem dX8_tellNode_108 : decode cX8_tellNode 108 = .ok (.istore 10, 2) := by decide +kernel
theorem dX8_tellNode_110 : decode cX8_tellNode 110 = .ok (.iload 4, 2) := by decide +kernel
theorem dX8_tellNode_112 : decode cX8_tellNode 112 = .ok (.iconst 1, 1) := by decide +kernel
theorem dX8_tellNode_113 : decode cX8_tellNode 113 = .ok (.isub, 1) := by decide +kernel
theorem dX8_tellNode_114 : decode cX8_tellNode 114 = .ok (.istore 11, 2) := by decide +kernel
theorem dX8_tellNode_116 : decode cX8_tellNode 116 = .ok (.iload 11, 2) := by decide +kernel
theorem dX8_tellNode_118 : decode cX8_tellNode 118 = .ok (.ifCond .lt 89, 3) := by decide +kernel
theorem dX8_tellNode_121 : decode cX8_tellNode 121 = .ok (.bipush 64, 2) := by decide +kernel
theorem dX8_tellNode_123 : decode cX8_tellNode 123 = .ok (.iload_n 3, 1) := by decide +kernel
theorem dX8_tellNode_124 : decode cX8_tellNode 124 = .ok (.iconst 1, 1) := by decide +kernel
theorem dX8_tellNode_125 : decode cX8_tellNode 125 = .ok (.isub, 1) := by decide +kernel
theorem dX8_tellNode_126 : decode cX8_tellNode 126 = .ok (.imul, 1) := by decide +kernel
theorem dX8_tellNode_127 : decode cX8_tellNode 127 = .ok (.iload 5, 2) := by decide +kernel
theorem dX8_tellNode_129 : decode cX8_tellNode 129 = .ok (.iadd, 1) := by decide +kernel
theorem dX8_tellNode_130 : decode cX8_tellNode 130 = .ok (.iload 11, 2) := by decide +kernel
theorem dX8_tellNode_132 : decode cX8_tellNode 132 = .ok (.iadd, 1) := by decide +kernel
theorem dX8_tellNode_133 : decode cX8_tellNode 133 = .ok (.istore 12, 2) := by decide +kernel
theorem dX8_tellNode_135 : decode cX8_tellNode 135 = .ok (.aload_n 0, 1) := by decide +kernel
theorem dX8_tellNode_136 : decode cX8_tellNode 136 = .ok (.getfield 38, 3) := by decide +kernel
theorem dX8_tellNode_139 : decode cX8_tellNode 139 = .ok (.iload 10, 2) := by decide +kernel
theorem dX8_tellNode_141 : decode cX8_tellNode 141 = .ok (.iload 12, 2) := by decide +kernel
theorem dX8_tellNode_143 : decode cX8_tellNode 143 = .ok (.iastore, 1) := by decide +kernel
theorem dX8_tellNode_144 : decode cX8_tellNode 144 = .ok (.aload_n 0, 1) := by decide +kernel
theorem dX8_tellNode_145 : decode cX8_tellNode 145 = .ok (.getfield 41, 3) := by decide +kernel
theorem dX8_tellNode_148 : decode cX8_tellNode 148 = .ok (.iload 10, 2) := by decide +kernel
theorem dX8_tellNode_150 : decode cX8_tellNode 150 = .ok (.iload 11, 2) := by decide +kernel
theorem dX8_tellNode_152 : decode cX8_tellNode 152 = .ok (.ifCond .ne 8, 3) := by decide +kernel
theorem dX8_tellNode_155 : decode cX8_tellNode 155 = .ok (.lload 6, 2) := by decide +kernel
theorem dX8_tellNode_157 : decode cX8_tellNode 157 = .ok (.goto 16, 3) := by decide +kernel
theorem dX8_tellNode_160 : decode cX8_tellNode 160 = .ok (.aload_n 0, 1) := by decide +kernel
theorem dX8_tellNode_161 : decode cX8_tellNode 161 = .ok (.getfield 7, 3) := by decide +kernel
theorem dX8_tellNode_164 : decode cX8_tellNode 164 = .ok (.aload_n 0, 1) := by decide +kernel
theorem dX8_tellNode_165 : decode cX8_tellNode 165 = .ok (.getfield 29, 3) := by decide +kernel
theorem dX8_tellNode_168 : decode cX8_tellNode 168 = .ok (.iload 12, 2) := by decide +kernel
theorem dX8_tellNode_170 : decode cX8_tellNode 170 = .ok (.iaload, 1) := by decide +kernel
theorem dX8_tellNode_171 : decode cX8_tellNode 171 = .ok (.iaload, 1) := by decide +kernel
theorem dX8_tellNode_172 : decode cX8_tellNode 172 = .ok (.i2l, 1) := by decide +kernel
theorem dX8_tellNode_173 : decode cX8_tellNode 173 = .ok (.lastore, 1) := by decide +kernel
theorem dX8_tellNode_174 : decode cX8_tellNode 174 = .ok (.aload_n 0, 1) := by decide +kernel
theorem dX8_tellNode_175 : decode cX8_tellNode 175 = .ok (.getfield 45, 3) := by decide +kernel
theorem dX8_tellNode_178 : decode cX8_tellNode 178 = .ok (.iload 10, 2) := by decide +kernel
theorem dX8_tellNode_180 : decode cX8_tellNode 180 = .ok (.lload 8, 2) := by decide +kernel
theorem dX8_tellNode_182 : decode cX8_tellNode 182 = .ok (.lastore, 1) := by decide +kernel
theorem dX8_tellNode_183 : decode cX8_tellNode 183 = .ok (.aload_n 0, 1) := by decide +kernel
theorem dX8_tellNode_184 : decode cX8_tellNode 184 = .ok (.getfield 7, 3) := by decide +kernel
theorem dX8_tellNode_187 : decode cX8_tellNode 187 = .ok (.aload_n 0, 1) := by decide +kernel
theorem dX8_tellNode_188 : decode cX8_tellNode 188 = .ok (.getfield 29, 3) := by decide +kernel
theorem dX8_tellNode_191 : decode cX8_tellNode 191 = .ok (.iload 12, 2) := by decide +kernel
theorem dX8_tellNode_193 : decode cX8_tellNode 193 = .ok (.iaload, 1) := by decide +kernel
theorem dX8_tellNode_194 : decode cX8_tellNode 194 = .ok (.iaload, 1) := by decide +kernel
theorem dX8_tellNode_195 : decode cX8_tellNode 195 = .ok (.i2l, 1) := by decide +kernel
theorem dX8_tellNode_196 : decode cX8_tellNode 196 = .ok (.lstore 8, 2) := by decide +kernel
theorem dX8_tellNode_198 : decode cX8_tellNode 198 = .ok (.iinc 10 1, 3) := by decide +kernel
theorem dX8_tellNode_201 : decode cX8_tellNode 201 = .ok (.iinc 11 (-1), 3) := by decide +kernel
theorem dX8_tellNode_204 : decode cX8_tellNode 204 = .ok (.goto (-88), 3) := by decide +kernel
theorem dX8_tellNode_207 : decode cX8_tellNode 207 = .ok (.iload 10, 2) := by decide +kernel
theorem dX8_tellNode_209 : decode cX8_tellNode 209 = .ok (.ireturn, 1) := by decide +kernel
theorem dX8_token_0 : decode cX8_token 0 = .ok (.iload_n 1, 1) := by decide +kernel
theorem dX8_token_1 : decode cX8_token 1 = .ok (.ifCond .lt 20, 3) := by decide +kernel
theorem dX8_token_4 : decode cX8_token 4 = .ok (.iload_n 1, 1) := by decide +kernel
theorem dX8_token_5 : decode cX8_token 5 = .ok (.aload_n 0, 1) := by decide +kernel
theorem dX8_token_6 : decode cX8_token 6 = .ok (.getfield 131, 3) := by decide +kernel
theorem dX8_token_9 : decode cX8_token 9 = .ok (.if_icmp .ge 12, 3) := by decide +kernel
theorem dX8_token_12 : decode cX8_token 12 = .ok (.aload_n 0, 1) := by decide +kernel
theorem dX8_token_13 : decode cX8_token 13 = .ok (.getfield 35, 3) := by decide +kernel
theorem dX8_token_16 : decode cX8_token 16 = .ok (.iload_n 1, 1) := by decide +kernel
theorem dX8_token_17 : decode cX8_token 17 = .ok (.iaload, 1) := by decide +kernel
theorem dX8_token_18 : decode cX8_token 18 = .ok (.goto 4, 3) := by decide +kernel
theorem dX8_token_21 : decode cX8_token 21 = .ok (.iconst 0, 1) := by decide +kernel
theorem dX8_token_22 : decode cX8_token 22 = .ok (.ireturn, 1) := by decide +kernel
theorem dX8_alter_0 : decode cX8_alter 0 = .ok (.iload_n 1, 1) := by decide +kernel
theorem dX8_alter_1 : decode cX8_alter 1 = .ok (.ifCond .lt 11, 3) := by decide +kernel
theorem dX8_alter_4 : decode cX8_alter 4 = .ok (.iload_n 1, 1) := by decide +kernel
theorem dX8_alter_5 : decode cX8_alter 5 = .ok (.aload_n 0, 1) := by decide +kernel
theorem dX8_alter_6 : decode cX8_alter 6 = .ok (.getfield 131, 3) := by decide +kernel
theorem dX8_alter_9 : decode cX8_alter 9 = .ok (.if_icmp .lt 5, 3) := by decide +kernel
theorem dX8_alter_12 : decode cX8_alter 12 = .ok (.iconst 0, 1) := by decide +kernel
theorem dX8_alter_13 : decode cX8_alter 13 = .ok (.ireturn, 1) := by decide +kernel
theorem dX8_alter_14 : decode cX8_alter 14 = .ok (.aload_n 0, 1) := by decide +kernel
theorem dX8_alter_15 : decode cX8_alter 15 = .ok (.getfield 35, 3) := by decide +kernel
theorem dX8_alter_18 : decode cX8_alter 18 = .ok (.iload_n 1, 1) := by decide +kernel
theorem dX8_alter_19 : decode cX8_alter 19 = .ok (.iload_n 2, 1) := by decide +kernel
theorem dX8_alter_20 : decode cX8_alter 20 = .ok (.iastore, 1) := by decide +kernel
theorem dX8_alter_21 : decode cX8_alter 21 = .ok (.iconst 1, 1) := by decide +kernel
theorem dX8_alter_22 : decode cX8_alter 22 = .ok (.ireturn, 1) := by decide +kernel
theorem dX8_trim_0 : decode cX8_trim 0 = .ok (.iload_n 1, 1) := by decide +kernel
theorem dX8_trim_1 : decode cX8_trim 1 = .ok (.ifCond .lt 11, 3) := by decide +kernel
theorem dX8_trim_4 : decode cX8_trim 4 = .ok (.iload_n 1, 1) := by decide +kernel
theorem dX8_trim_5 : decode cX8_trim 5 = .ok (.aload_n 0, 1) := by decide +kernel
theorem dX8_trim_6 : decode cX8_trim 6 = .ok (.getfield 131, 3) := by decide +kernel
theorem dX8_trim_9 : decode cX8_trim 9 = .ok (.if_icmp .le 5, 3) := by decide +kernel
theorem dX8_trim_12 : decode cX8_trim 12 = .ok (.iconst 0, 1) := by decide +kernel
theorem dX8_trim_13 : decode cX8_trim 13 = .ok (.ireturn, 1) := by decide +kernel
theorem dX8_trim_14 : decode cX8_trim 14 = .ok (.aload_n 0, 1) := by decide +kernel
theorem dX8_trim_15 : decode cX8_trim 15 = .ok (.iload_n 1, 1) := by decide +kernel
theorem dX8_trim_16 : decode cX8_trim 16 = .ok (.putfield 131, 3) := by decide +kernel
theorem dX8_trim_19 : decode cX8_trim 19 = .ok (.iconst 1, 1) := by decide +kernel
theorem dX8_trim_20 : decode cX8_trim 20 = .ok (.ireturn, 1) := by decide +kernel
theorem dX8_there_0 : decode cX8_there 0 = .ok (.aload_n 0, 1) := by decide +kernel
theorem dX8_there_1 : decode cX8_there 1 = .ok (.getfield 151, 3) := by decide +kernel
theorem dX8_there_4 : decode cX8_there 4 = .ok (.iload_n 1, 1) := by decide +kernel
theorem dX8_there_5 : decode cX8_there 5 = .ok (.iadd, 1) := by decide +kernel
theorem dX8_there_6 : decode cX8_there 6 = .ok (.aload_n 0, 1) := by decide +kernel
theorem dX8_there_7 : decode cX8_there 7 = .ok (.getfield 131, 3) := by decide +kernel
theorem dX8_there_10 : decode cX8_there 10 = .ok (.if_icmp .gt 7, 3) := by decide +kernel
theorem dX8_there_13 : decode cX8_there 13 = .ok (.iconst 1, 1) := by decide +kernel
theorem dX8_there_14 : decode cX8_there 14 = .ok (.goto 4, 3) := by decide +kernel
theorem dX8_there_17 : decode cX8_there 17 = .ok (.iconst 0, 1) := by decide +kernel
theorem dX8_there_18 : decode cX8_there 18 = .ok (.ireturn, 1) := by decide +kernel
theorem dX8_rises_0 : decode cX8_rises 0 = .ok (.aload_n 0, 1) := by decide +kernel
theorem dX8_rises_1 : decode cX8_rises 1 = .ok (.getfield 154, 3) := by decide +kernel
theorem dX8_rises_4 : decode cX8_rises 4 = .ok (.ifCond .eq 11, 3) := by decide +kernel
theorem dX8_rises_7 : decode cX8_rises 7 = .ok (.iload_n 1, 1) := by decide +kernel
theorem dX8_rises_8 : decode cX8_rises 8 = .ok (.aload_n 0, 1) := by decide +kernel
theorem dX8_rises_9 : decode cX8_rises 9 = .ok (.getfield 158, 3) := by decide +kernel
theorem dX8_rises_12 : decode cX8_rises 12 = .ok (.if_icmp .le 7, 3) := by decide +kernel
theorem dX8_rises_15 : decode cX8_rises 15 = .ok (.iconst 1, 1) := by decide +kernel
theorem dX8_rises_16 : decode cX8_rises 16 = .ok (.goto 4, 3) := by decide +kernel
theorem dX8_rises_19 : decode cX8_rises 19 = .ok (.iconst 0, 1) := by decide +kernel
theorem dX8_rises_20 : decode cX8_rises 20 = .ok (.istore_n 2, 1) := by decide +kernel
theorem dX8_rises_21 : decode cX8_rises 21 = .ok (.aload_n 0, 1) := by decide +kernel
theorem dX8_rises_22 : decode cX8_rises 22 = .ok (.iconst 1, 1) := by decide +kernel
theorem dX8_rises_23 : decode cX8_rises 23 = .ok (.putfield 154, 3) := by decide +kernel
theorem dX8_rises_26 : decode cX8_rises 26 = .ok (.aload_n 0, 1) := by decide +kernel
theorem dX8_rises_27 : decode cX8_rises 27 = .ok (.iload_n 1, 1) := by decide +kernel
theorem dX8_rises_28 : decode cX8_rises 28 = .ok (.putfield 158, 3) := by decide +kernel
theorem dX8_rises_31 : decode cX8_rises 31 = .ok (.iload_n 2, 1) := by decide +kernel
theorem dX8_rises_32 : decode cX8_rises 32 = .ok (.ireturn, 1) := by decide +kernel
theorem dX8_readLeaf_0 : decode cX8_readLeaf 0 = .ok (.iload_n 2, 1) := by decide +kernel
theorem dX8_readLeaf_1 : decode cX8_readLeaf 1 = .ok (.iload_n 3, 1) := by decide +kernel
theorem dX8_readLeaf_2 : decode cX8_readLeaf 2 = .ok (.ifCond .eq 7, 3) := by decide +kernel
theorem dX8_readLeaf_5 : decode cX8_readLeaf 5 = .ok (.iconst 0, 1) := by decide +kernel
theorem dX8_readLeaf_6 : decode cX8_readLeaf 6 = .ok (.goto 4, 3) := by decide +kernel
theorem dX8_readLeaf_9 : decode cX8_readLeaf 9 = .ok (.iconst 1, 1) := by decide +kernel
theorem dX8_readLeaf_10 : decode cX8_readLeaf 10 = .ok (.if_icmp .lt 21, 3) := by decide +kernel
theorem dX8_readLeaf_13 : decode cX8_readLeaf 13 = .ok (.iload_n 2, 1) := by decide +kernel
theorem dX8_readLeaf_14 : decode cX8_readLeaf 14 = .ok (.aload_n 0, 1) := by decide +kernel
theorem dX8_readLeaf_15 : decode cX8_readLeaf 15 = .ok (.getfield 81, 3) := by decide +kernel
theorem dX8_readLeaf_18 : decode cX8_readLeaf 18 = .ok (.if_icmp .gt 13, 3) := by decide +kernel
theorem dX8_readLeaf_21 : decode cX8_readLeaf 21 = .ok (.aload_n 0, 1) := by decide +kernel
theorem dX8_readLeaf_22 : decode cX8_readLeaf 22 = .ok (.iconst 2, 1) := by decide +kernel
theorem dX8_readLeaf_23 : decode cX8_readLeaf 23 = .ok (.iload_n 2, 1) := by decide +kernel
theorem dX8_readLeaf_24 : decode cX8_readLeaf 24 = .ok (.imul, 1) := by decide +kernel
theorem dX8_readLeaf_25 : decode cX8_readLeaf 25 = .ok (.invokevirtual 161, 3) := by decide +kernel
theorem dX8_readLeaf_28 : decode cX8_readLeaf 28 = .ok (.ifCond .ne 5, 3) := by decide +kernel
theorem dX8_readLeaf_31 : decode cX8_readLeaf 31 = .ok (.iconst 0, 1) := by decide +kernel
theorem dX8_readLeaf_32 : decode cX8_readLeaf 32 = .ok (.ireturn, 1) := by decide +kernel
theorem dX8_readLeaf_33 : decode cX8_readLeaf 33 = .ok (.aload_n 0, 1) := by decide +kernel
theorem dX8_readLeaf_34 : decode cX8_readLeaf 34 = .ok (.getfield 57, 3) := by decide +kernel
theorem dX8_readLeaf_37 : decode cX8_readLeaf 37 = .ok (.iload_n 1, 1) := by decide +kernel
theorem dX8_readLeaf_38 : decode cX8_readLeaf 38 = .ok (.aload_n 0, 1) := by decide +kernel
theorem dX8_readLeaf_39 : decode cX8_readLeaf 39 = .ok (.getfield 151, 3) := by decide +kernel
theorem dX8_readLeaf_42 : decode cX8_readLeaf 42 = .ok (.iastore, 1) := by decide +kernel
theorem dX8_readLeaf_43 : decode cX8_readLeaf 43 = .ok (.aload_n 0, 1) := by decide +kernel
theorem dX8_readLeaf_44 : decode cX8_readLeaf 44 = .ok (.getfield 54, 3) := by decide +kernel
theorem dX8_readLeaf_47 : decode cX8_readLeaf 47 = .ok (.iload_n 1, 1) := by decide +kernel
theorem dX8_readLeaf_48 : decode cX8_readLeaf 48 = .ok (.iload_n 2, 1) := by decide +kernel
theorem dX8_readLeaf_49 : decode cX8_readLeaf 49 = .ok (.iastore, 1) := by decide +kernel
theorem dX8_readLeaf_50 : decode cX8_readLeaf 50 = .ok (.aload_n 0, 1) := by decide +kernel
theorem dX8_readLeaf_51 : decode cX8_readLeaf 51 = .ok (.getfield 66, 3) := by decide +kernel
theorem dX8_readLeaf_54 : decode cX8_readLeaf 54 = .ok (.iload_n 1, 1) := by decide +kernel
theorem dX8_readLeaf_55 : decode cX8_readLeaf 55 = .ok (.iload_n 2, 1) := by decide +kernel
theorem dX8_readLeaf_56 : decode cX8_readLeaf 56 = .ok (.iastore, 1) := by decide +kernel
theorem dX8_readLeaf_57 : decode cX8_readLeaf 57 = .ok (.aload_n 0, 1) := by decide +kernel
theorem dX8_readLeaf_58 : decode cX8_readLeaf 58 = .ok (.getfield 60, 3) := by decide +kernel
theorem dX8_readLeaf_61 : decode cX8_readLeaf 61 = .ok (.iload_n 1, 1) := by decide +kernel
theorem dX8_readLeaf_62 : decode cX8_readLeaf 62 = .ok (.iload_n 2, 1) := by decide +kernel
theorem dX8_readLeaf_63 : decode cX8_readLeaf 63 = .ok (.ifCond .le 15, 3) := by decide +kernel
theorem dX8_readLeaf_66 : decode cX8_readLeaf 66 = .ok (.aload_n 0, 1) := by decide +kernel
theorem dX8_readLeaf_67 : decode cX8_readLeaf 67 = .ok (.getfield 35, 3) := by decide +kernel
theorem dX8_readLeaf_70 : decode cX8_readLeaf 70 = .ok (.aload_n 0, 1) := by decide +kernel
theorem dX8_readLeaf_71 : decode cX8_readLeaf 71 = .ok (.getfield 151, 3) := by decide +kernel
theorem dX8_readLeaf_74 : decode cX8_readLeaf 74 = .ok (.iaload, 1) := by decide +kernel
theorem dX8_readLeaf_75 : decode cX8_readLeaf 75 = .ok (.goto 4, 3) := by decide +kernel
theorem dX8_readLeaf_78 : decode cX8_readLeaf 78 = .ok (.iconst 0, 1) := by decide +kernel
theorem dX8_readLeaf_79 : decode cX8_readLeaf 79 = .ok (.iastore, 1) := by decide +kernel
theorem dX8_readLeaf_80 : decode cX8_readLeaf 80 = .ok (.iconst 1, 1) := by decide +kernel
theorem dX8_readLeaf_81 : decode cX8_readLeaf 81 = .ok (.istore 4, 2) := by decide +kernel
theorem dX8_readLeaf_83 : decode cX8_readLeaf 83 = .ok (.iconst 0, 1) := by decide +kernel
theorem dX8_readLeaf_84 : decode cX8_readLeaf 84 = .ok (.istore 5, 2) := by decide +kernel
theorem dX8_readLeaf_86 : decode cX8_readLeaf 86 = .ok (.iload 5, 2) := by decide +kernel
theorem dX8_readLeaf_88 : decode cX8_readLeaf 88 = .ok (.iload_n 2, 1) := by decide +kernel
theorem dX8_readLeaf_89 : decode cX8_readLeaf 89 = .ok (.if_icmp .ge 42, 3) := by decide +kernel
theorem dX8_readLeaf_92 : decode cX8_readLeaf 92 = .ok (.iload 4, 2) := by decide +kernel
theorem dX8_readLeaf_94 : decode cX8_readLeaf 94 = .ok (.ifCond .eq 28, 3) := by decide +kernel
theorem dX8_readLeaf_97 : decode cX8_readLeaf 97 = .ok (.aload_n 0, 1) := by decide +kernel
theorem dX8_readLeaf_98 : decode cX8_readLeaf 98 = .ok (.aload_n 0, 1) := by decide +kernel
theorem dX8_readLeaf_99 : decode cX8_readLeaf 99 = .ok (.getfield 35, 3) := by decide +kernel
theorem dX8_readLeaf_102 : decode cX8_readLeaf 102 = .ok (.aload_n 0, 1) := by decide +kernel
theorem dX8_readLeaf_103 : decode cX8_readLeaf 103 = .ok (.getfield 151, 3) := by decide +kernel
theorem dX8_readLeaf_106 : decode cX8_readLeaf 106 = .ok (.iconst 2, 1) := by decide +kernel
theorem dX8_readLeaf_107 : decode cX8_readLeaf 107 = .ok (.iload 5, 2) := by decide +kernel
theorem dX8_readLeaf_109 : decode cX8_readLeaf 109 = .ok (.imul, 1) := by decide +kernel
theorem dX8_readLeaf_110 : decode cX8_readLeaf 110 = .ok (.iadd, 1) := by decide +kernel
theorem dX8_readLeaf_111 : decode cX8_readLeaf 111 = .ok (.iaload, 1) := by decide +kernel
theorem dX8_readLeaf_112 : decode cX8_readLeaf 112 = .ok (.invokevirtual 165, 3) := by decide +kernel
theorem dX8_readLeaf_115 : decode cX8_readLeaf 115 = .ok (.ifCond .eq 7, 3) := by decide +kernel
theorem dX8_readLeaf_118 : decode cX8_readLeaf 118 = .ok (.iconst 1, 1) := by decide +kernel
theorem dX8_readLeaf_119 : decode cX8_readLeaf 119 = .ok (.goto 4, 3) := by decide +kernel
theorem dX8_readLeaf_122 : decode cX8_readLeaf 122 = .ok (.iconst 0, 1) := by decide +kernel
theorem dX8_readLeaf_123 : decode cX8_readLeaf 123 = .ok (.istore 4, 2) := by decide +kernel
theorem dX8_readLeaf_125 : decode cX8_readLeaf 125 = .ok (.iinc 5 1, 3) := by decide +kernel
theorem dX8_readLeaf_128 : decode cX8_readLeaf 128 = .ok (.goto (-42), 3) := by decide +kernel
theorem dX8_readLeaf_131 : decode cX8_readLeaf 131 = .ok (.aload_n 0, 1) := by decide +kernel
theorem dX8_readLeaf_132 : decode cX8_readLeaf 132 = .ok (.aload_n 0, 1) := by decide +kernel
theorem dX8_readLeaf_133 : decode cX8_readLeaf 133 = .ok (.getfield 151, 3) := by decide +kernel
theorem dX8_readLeaf_136 : decode cX8_readLeaf 136 = .ok (.iconst 2, 1) := by decide +kernel
theorem dX8_readLeaf_137 : decode cX8_readLeaf 137 = .ok (.iload_n 2, 1) := by decide +kernel
theorem dX8_readLeaf_138 : decode cX8_readLeaf 138 = .ok (.imul, 1) := by decide +kernel
theorem dX8_readLeaf_139 : decode cX8_readLeaf 139 = .ok (.iadd, 1) := by decide +kernel
theorem dX8_readLeaf_140 : decode cX8_readLeaf 140 = .ok (.putfield 151, 3) := by decide +kernel
theorem dX8_readLeaf_143 : decode cX8_readLeaf 143 = .ok (.iload 4, 2) := by decide +kernel
theorem dX8_readLeaf_145 : decode cX8_readLeaf 145 = .ok (.ireturn, 1) := by decide +kernel
theorem dX8_readLeft_0 : decode cX8_readLeft 0 = .ok (.aload_n 0, 1) := by decide +kernel
theorem dX8_readLeft_1 : decode cX8_readLeft 1 = .ok (.iconst 3, 1) := by decide +kernel
theorem dX8_readLeft_2 : decode cX8_readLeft 2 = .ok (.invokevirtual 161, 3) := by decide +kernel
theorem dX8_readLeft_5 : decode cX8_readLeft 5 = .ok (.ifCond .ne 5, 3) := by decide +kernel
theorem dX8_readLeft_8 : decode cX8_readLeft 8 = .ok (.iconst 0, 1) := by decide +kernel
theorem dX8_readLeft_9 : decode cX8_readLeft 9 = .ok (.ireturn, 1) := by decide +kernel
theorem dX8_readLeft_10 : decode cX8_readLeft 10 = .ok (.aload_n 0, 1) := by decide +kernel
theorem dX8_readLeft_11 : decode cX8_readLeft 11 = .ok (.getfield 60, 3) := by decide +kernel
theorem dX8_readLeft_14 : decode cX8_readLeft 14 = .ok (.iload_n 1, 1) := by decide +kernel
theorem dX8_readLeft_15 : decode cX8_readLeft 15 = .ok (.aload_n 0, 1) := by decide +kernel
theorem dX8_readLeft_16 : decode cX8_readLeft 16 = .ok (.getfield 35, 3) := by decide +kernel
theorem dX8_readLeft_19 : decode cX8_readLeft 19 = .ok (.aload_n 0, 1) := by decide +kernel
theorem dX8_readLeft_20 : decode cX8_readLeft 20 = .ok (.getfield 151, 3) := by decide +kernel
theorem dX8_readLeft_23 : decode cX8_readLeft 23 = .ok (.iaload, 1) := by decide +kernel
theorem dX8_readLeft_24 : decode cX8_readLeft 24 = .ok (.iastore, 1) := by decide +kernel
theorem dX8_readLeft_25 : decode cX8_readLeft 25 = .ok (.aload_n 0, 1) := by decide +kernel
theorem dX8_readLeft_26 : decode cX8_readLeft 26 = .ok (.getfield 63, 3) := by decide +kernel
theorem dX8_readLeft_29 : decode cX8_readLeft 29 = .ok (.iload_n 1, 1) := by decide +kernel
theorem dX8_readLeft_30 : decode cX8_readLeft 30 = .ok (.aload_n 0, 1) := by decide +kernel
theorem dX8_readLeft_31 : decode cX8_readLeft 31 = .ok (.getfield 35, 3) := by decide +kernel
theorem dX8_readLeft_34 : decode cX8_readLeft 34 = .ok (.aload_n 0, 1) := by decide +kernel
theorem dX8_readLeft_35 : decode cX8_readLeft 35 = .ok (.getfield 151, 3) := by decide +kernel
theorem dX8_readLeft_38 : decode cX8_readLeft 38 = .ok (.iconst 1, 1) := by decide +kernel
theorem dX8_readLeft_39 : decode cX8_readLeft 39 = .ok (.iadd, 1) := by decide +kernel
theorem dX8_readLeft_40 : decode cX8_readLeft 40 = .ok (.iaload, 1) := by decide +kernel
theorem dX8_readLeft_41 : decode cX8_readLeft 41 = .ok (.iastore, 1) := by decide +kernel
theorem dX8_readLeft_42 : decode cX8_readLeft 42 = .ok (.aload_n 0, 1) := by decide +kernel
theorem dX8_readLeft_43 : decode cX8_readLeft 43 = .ok (.getfield 66, 3) := by decide +kernel
theorem dX8_readLeft_46 : decode cX8_readLeft 46 = .ok (.iload_n 1, 1) := by decide +kernel
theorem dX8_readLeft_47 : decode cX8_readLeft 47 = .ok (.aload_n 0, 1) := by decide +kernel
theorem dX8_readLeft_48 : decode cX8_readLeft 48 = .ok (.getfield 35, 3) := by decide +kernel
theorem dX8_readLeft_51 : decode cX8_readLeft 51 = .ok (.aload_n 0, 1) := by decide +kernel
theorem dX8_readLeft_52 : decode cX8_readLeft 52 = .ok (.getfield 151, 3) := by decide +kernel
theorem dX8_readLeft_55 : decode cX8_readLeft 55 = .ok (.iconst 2, 1) := by decide +kernel
theorem dX8_readLeft_56 : decode cX8_readLeft 56 = .ok (.iadd, 1) := by decide +kernel
theorem dX8_readLeft_57 : decode cX8_readLeft 57 = .ok (.iaload, 1) := by decide +kernel
theorem dX8_readLeft_58 : decode cX8_readLeft 58 = .ok (.iastore, 1) := by decide +kernel
theorem dX8_readLeft_59 : decode cX8_readLeft 59 = .ok (.aload_n 0, 1) := by decide +kernel
theorem dX8_readLeft_60 : decode cX8_readLeft 60 = .ok (.aload_n 0, 1) := by decide +kernel
theorem dX8_readLeft_61 : decode cX8_readLeft 61 = .ok (.getfield 151, 3) := by decide +kernel
theorem dX8_readLeft_64 : decode cX8_readLeft 64 = .ok (.iconst 3, 1) := by decide +kernel
theorem dX8_readLeft_65 : decode cX8_readLeft 65 = .ok (.iadd, 1) := by decide +kernel
theorem dX8_readLeft_66 : decode cX8_readLeft 66 = .ok (.putfield 151, 3) := by decide +kernel
theorem dX8_readLeft_69 : decode cX8_readLeft 69 = .ok (.aload_n 0, 1) := by decide +kernel
theorem dX8_readLeft_70 : decode cX8_readLeft 70 = .ok (.getfield 66, 3) := by decide +kernel
theorem dX8_readLeft_73 : decode cX8_readLeft 73 = .ok (.iload_n 1, 1) := by decide +kernel
theorem dX8_readLeft_74 : decode cX8_readLeft 74 = .ok (.iaload, 1) := by decide +kernel
theorem dX8_readLeft_75 : decode cX8_readLeft 75 = .ok (.iconst 1, 1) := by decide +kernel
theorem dX8_readLeft_76 : decode cX8_readLeft 76 = .ok (.if_icmp .lt 20, 3) := by decide +kernel
theorem dX8_readLeft_79 : decode cX8_readLeft 79 = .ok (.aload_n 0, 1) := by decide +kernel
theorem dX8_readLeft_80 : decode cX8_readLeft 80 = .ok (.aload_n 0, 1) := by decide +kernel
theorem dX8_readLeft_81 : decode cX8_readLeft 81 = .ok (.getfield 60, 3) := by decide +kernel
theorem dX8_readLeft_84 : decode cX8_readLeft 84 = .ok (.iload_n 1, 1) := by decide +kernel
theorem dX8_readLeft_85 : decode cX8_readLeft 85 = .ok (.iaload, 1) := by decide +kernel
theorem dX8_readLeft_86 : decode cX8_readLeft 86 = .ok (.invokevirtual 165, 3) := by decide +kernel
theorem dX8_readLeft_89 : decode cX8_readLeft 89 = .ok (.ifCond .eq 7, 3) := by decide +kernel
theorem dX8_readLeft_92 : decode cX8_readLeft 92 = .ok (.iconst 1, 1) := by decide +kernel
theorem dX8_readLeft_93 : decode cX8_readLeft 93 = .ok (.goto 4, 3) := by decide +kernel
theorem dX8_readLeft_96 : decode cX8_readLeft 96 = .ok (.iconst 0, 1) := by decide +kernel
theorem dX8_readLeft_97 : decode cX8_readLeft 97 = .ok (.ireturn, 1) := by decide +kernel
theorem dX8_depth_0 : decode cX8_depth 0 = .ok (.iconst 1, 1) := by decide +kernel
theorem dX8_depth_1 : decode cX8_depth 1 = .ok (.istore_n 2, 1) := by decide +kernel
theorem dX8_depth_2 : decode cX8_depth 2 = .ok (.iload_n 1, 1) := by decide +kernel
theorem dX8_depth_3 : decode cX8_depth 3 = .ok (.istore_n 3, 1) := by decide +kernel
theorem dX8_depth_4 : decode cX8_depth 4 = .ok (.iload_n 3, 1) := by decide +kernel
theorem dX8_depth_5 : decode cX8_depth 5 = .ok (.ifCond .le 16, 3) := by decide +kernel
theorem dX8_depth_8 : decode cX8_depth 8 = .ok (.aload_n 0, 1) := by decide +kernel
theorem dX8_depth_9 : decode cX8_depth 9 = .ok (.getfield 51, 3) := by decide +kernel
theorem dX8_depth_12 : decode cX8_depth 12 = .ok (.iload_n 3, 1) := by decide +kernel
theorem dX8_depth_13 : decode cX8_depth 13 = .ok (.iaload, 1) := by decide +kernel
theorem dX8_depth_14 : decode cX8_depth 14 = .ok (.istore_n 3, 1) := by decide +kernel
theorem dX8_depth_15 : decode cX8_depth 15 = .ok (.iinc 2 1, 3) := by decide +kernel
theorem dX8_depth_18 : decode cX8_depth 18 = .ok (.goto (-14), 3) := by decide +kernel
theorem dX8_depth_21 : decode cX8_depth 21 = .ok (.iload_n 2, 1) := by decide +kernel
theorem dX8_depth_22 : decode cX8_depth 22 = .ok (.ireturn, 1) := by decide +kernel
theorem dX8_waiting_0 : decode cX8_waiting 0 = .ok (.aload_n 0, 1) := by decide +kernel
theorem dX8_waiting_1 : decode cX8_waiting 1 = .ok (.getfield 168, 3) := by decide +kernel
theorem dX8_waiting_4 : decode cX8_waiting 4 = .ok (.iconst 1, 1) := by decide +kernel
theorem dX8_waiting_5 : decode cX8_waiting 5 = .ok (.isub, 1) := by decide +kernel
theorem dX8_waiting_6 : decode cX8_waiting 6 = .ok (.istore_n 1, 1) := by decide +kernel
theorem dX8_waiting_7 : decode cX8_waiting 7 = .ok (.iload_n 1, 1) := by decide +kernel
theorem dX8_waiting_8 : decode cX8_waiting 8 = .ok (.ifCond .lt 45, 3) := by decide +kernel
theorem dX8_waiting_11 : decode cX8_waiting 11 = .ok (.aload_n 0, 1) := by decide +kernel
theorem dX8_waiting_12 : decode cX8_waiting 12 = .ok (.getfield 48, 3) := by decide +kernel
theorem dX8_waiting_15 : decode cX8_waiting 15 = .ok (.iload_n 1, 1) := by decide +kernel
theorem dX8_waiting_16 : decode cX8_waiting 16 = .ok (.iaload, 1) := by decide +kernel
theorem dX8_waiting_17 : decode cX8_waiting 17 = .ok (.iconst 2, 1) := by decide +kernel
theorem dX8_waiting_18 : decode cX8_waiting 18 = .ok (.if_icmp .ne 17, 3) := by decide +kernel
theorem dX8_waiting_21 : decode cX8_waiting 21 = .ok (.aload_n 0, 1) := by decide +kernel
theorem dX8_waiting_22 : decode cX8_waiting 22 = .ok (.iload_n 1, 1) := by decide +kernel
theorem dX8_waiting_23 : decode cX8_waiting 23 = .ok (.invokevirtual 171, 3) := by decide +kernel
theorem dX8_waiting_26 : decode cX8_waiting 26 = .ok (.aload_n 0, 1) := by decide +kernel
theorem dX8_waiting_27 : decode cX8_waiting 27 = .ok (.getfield 54, 3) := by decide +kernel
theorem dX8_waiting_30 : decode cX8_waiting 30 = .ok (.iload_n 1, 1) := by decide +kernel
theorem dX8_waiting_31 : decode cX8_waiting 31 = .ok (.iaload, 1) := by decide +kernel
theorem dX8_waiting_32 : decode cX8_waiting 32 = .ok (.if_icmp .ne 21, 3) := by decide +kernel
theorem dX8_waiting_35 : decode cX8_waiting 35 = .ok (.iload_n 1, 1) := by decide +kernel
theorem dX8_waiting_36 : decode cX8_waiting 36 = .ok (.ifCond .ne 7, 3) := by decide +kernel
theorem dX8_waiting_39 : decode cX8_waiting 39 = .ok (.iconst (-1), 1) := by decide +kernel
theorem dX8_waiting_40 : decode cX8_waiting 40 = .ok (.goto 9, 3) := by decide +kernel
theorem dX8_waiting_43 : decode cX8_waiting 43 = .ok (.aload_n 0, 1) := by decide +kernel
theorem dX8_waiting_44 : decode cX8_waiting 44 = .ok (.getfield 51, 3) := by decide +kernel
theorem dX8_waiting_47 : decode cX8_waiting 47 = .ok (.iload_n 1, 1) := by decide +kernel
theorem dX8_waiting_48 : decode cX8_waiting 48 = .ok (.iaload, 1) := by decide +kernel
theorem dX8_waiting_49 : decode cX8_waiting 49 = .ok (.istore_n 1, 1) := by decide +kernel
theorem dX8_waiting_50 : decode cX8_waiting 50 = .ok (.goto (-43), 3) := by decide +kernel
theorem dX8_waiting_53 : decode cX8_waiting 53 = .ok (.iload_n 1, 1) := by decide +kernel
theorem dX8_waiting_54 : decode cX8_waiting 54 = .ok (.ireturn, 1) := by decide +kernel
theorem dX8_have_0 : decode cX8_have 0 = .ok (.iconst 0, 1) := by decide +kernel
theorem dX8_have_1 : decode cX8_have 1 = .ok (.istore_n 2, 1) := by decide +kernel
theorem dX8_have_2 : decode cX8_have 2 = .ok (.iload_n 1, 1) := by decide +kernel
theorem dX8_have_3 : decode cX8_have 3 = .ok (.iconst 1, 1) := by decide +kernel
theorem dX8_have_4 : decode cX8_have 4 = .ok (.iadd, 1) := by decide +kernel
theorem dX8_have_5 : decode cX8_have 5 = .ok (.istore_n 3, 1) := by decide +kernel
theorem dX8_have_6 : decode cX8_have 6 = .ok (.iload_n 3, 1) := by decide +kernel
theorem dX8_have_7 : decode cX8_have 7 = .ok (.aload_n 0, 1) := by decide +kernel
theorem dX8_have_8 : decode cX8_have 8 = .ok (.getfield 168, 3) := by decide +kernel
theorem dX8_have_11 : decode cX8_have 11 = .ok (.if_icmp .ge 27, 3) := by decide +kernel
theorem dX8_have_14 : decode cX8_have 14 = .ok (.aload_n 0, 1) := by decide +kernel
theorem dX8_have_15 : decode cX8_have 15 = .ok (.getfield 51, 3) := by decide +kernel
theorem dX8_have_18 : decode cX8_have 18 = .ok (.iload_n 3, 1) := by decide +kernel
theorem dX8_have_19 : decode cX8_have 19 = .ok (.iaload, 1) := by decide +kernel
theorem dX8_have_20 : decode cX8_have 20 = .ok (.iload_n 1, 1) := by decide +kernel
theorem dX8_have_21 : decode cX8_have 21 = .ok (.if_icmp .ne 9, 3) := by decide +kernel
theorem dX8_have_24 : decode cX8_have 24 = .ok (.iload_n 2, 1) := by decide +kernel
theorem dX8_have_25 : decode cX8_have 25 = .ok (.iconst 1, 1) := by decide +kernel
theorem dX8_have_26 : decode cX8_have 26 = .ok (.iadd, 1) := by decide +kernel
theorem dX8_have_27 : decode cX8_have 27 = .ok (.goto 4, 3) := by decide +kernel
theorem dX8_have_30 : decode cX8_have 30 = .ok (.iload_n 2, 1) := by decide +kernel
theorem dX8_have_31 : decode cX8_have 31 = .ok (.istore_n 2, 1) := by decide +kernel
theorem dX8_have_32 : decode cX8_have 32 = .ok (.iinc 3 1, 3) := by decide +kernel
theorem dX8_have_35 : decode cX8_have 35 = .ok (.goto (-29), 3) := by decide +kernel
theorem dX8_have_38 : decode cX8_have 38 = .ok (.iload_n 2, 1) := by decide +kernel
theorem dX8_have_39 : decode cX8_have 39 = .ok (.ireturn, 1) := by decide +kernel
theorem dX8_readNode_0 : decode cX8_readNode 0 = .ok (.aload_n 0, 1) := by decide +kernel
theorem dX8_readNode_1 : decode cX8_readNode 1 = .ok (.getfield 168, 3) := by decide +kernel
theorem dX8_readNode_4 : decode cX8_readNode 4 = .ok (.ifCond .ne 7, 3) := by decide +kernel
theorem dX8_readNode_7 : decode cX8_readNode 7 = .ok (.iconst 1, 1) := by decide +kernel
theorem dX8_readNode_8 : decode cX8_readNode 8 = .ok (.goto 4, 3) := by decide +kernel
theorem dX8_readNode_11 : decode cX8_readNode 11 = .ok (.iconst 0, 1) := by decide +kernel
theorem dX8_readNode_12 : decode cX8_readNode 12 = .ok (.istore_n 2, 1) := by decide +kernel
theorem dX8_readNode_13 : decode cX8_readNode 13 = .ok (.aload_n 0, 1) := by decide +kernel
theorem dX8_readNode_14 : decode cX8_readNode 14 = .ok (.getfield 168, 3) := by decide +kernel
theorem dX8_readNode_17 : decode cX8_readNode 17 = .ok (.sipush 300, 3) := by decide +kernel
theorem dX8_readNode_20 : decode cX8_readNode 20 = .ok (.if_icmp .eq 11, 3) := by decide +kernel
theorem dX8_readNode_23 : decode cX8_readNode 23 = .ok (.aload_n 0, 1) := by decide +kernel
theorem dX8_readNode_24 : decode cX8_readNode 24 = .ok (.iconst 1, 1) := by decide +kernel
theorem dX8_readNode_25 : decode cX8_readNode 25 = .ok (.invokevirtual 161, 3) := by decide +kernel
theorem dX8_readNode_28 : decode cX8_readNode 28 = .ok (.ifCond .ne 5, 3) := by decide +kernel
theorem dX8_readNode_31 : decode cX8_readNode 31 = .ok (.iconst 0, 1) := by decide +kernel
theorem dX8_readNode_32 : decode cX8_readNode 32 = .ok (.ireturn, 1) := by decide +kernel
theorem dX8_readNode_33 : decode cX8_readNode 33 = .ok (.aload_n 0, 1) := by decide +kernel
theorem dX8_readNode_34 : decode cX8_readNode 34 = .ok (.getfield 168, 3) := by decide +kernel
theorem dX8_readNode_37 : decode cX8_readNode 37 = .ok (.istore_n 3, 1) := by decide +kernel
theorem dX8_readNode_38 : decode cX8_readNode 38 = .ok (.aload_n 0, 1) := by decide +kernel
theorem dX8_readNode_39 : decode cX8_readNode 39 = .ok (.getfield 48, 3) := by decide +kernel
theorem dX8_readNode_42 : decode cX8_readNode 42 = .ok (.iload_n 3, 1) := by decide +kernel
theorem dX8_readNode_43 : decode cX8_readNode 43 = .ok (.aload_n 0, 1) := by decide +kernel
theorem dX8_readNode_44 : decode cX8_readNode 44 = .ok (.getfield 35, 3) := by decide +kernel
theorem dX8_readNode_47 : decode cX8_readNode 47 = .ok (.aload_n 0, 1) := by decide +kernel
theorem dX8_readNode_48 : decode cX8_readNode 48 = .ok (.getfield 151, 3) := by decide +kernel
theorem dX8_readNode_51 : decode cX8_readNode 51 = .ok (.iaload, 1) := by decide +kernel
theorem dX8_readNode_52 : decode cX8_readNode 52 = .ok (.iastore, 1) := by decide +kernel
theorem dX8_readNode_53 : decode cX8_readNode 53 = .ok (.aload_n 0, 1) := by decide +kernel
theorem dX8_readNode_54 : decode cX8_readNode 54 = .ok (.getfield 51, 3) := by decide +kernel
theorem dX8_readNode_57 : decode cX8_readNode 57 = .ok (.iload_n 3, 1) := by decide +kernel
theorem dX8_readNode_58 : decode cX8_readNode 58 = .ok (.iload_n 1, 1) := by decide +kernel
theorem dX8_readNode_59 : decode cX8_readNode 59 = .ok (.iastore, 1) := by decide +kernel
theorem dX8_readNode_60 : decode cX8_readNode 60 = .ok (.aload_n 0, 1) := by decide +kernel
theorem dX8_readNode_61 : decode cX8_readNode 61 = .ok (.dup, 1) := by decide +kernel
theorem dX8_readNode_62 : decode cX8_readNode 62 = .ok (.getfield 151, 3) := by decide +kernel
theorem dX8_readNode_65 : decode cX8_readNode 65 = .ok (.iconst 1, 1) := by decide +kernel
theorem dX8_readNode_66 : decode cX8_readNode 66 = .ok (.iadd, 1) := by decide +kernel
theorem dX8_readNode_67 : decode cX8_readNode 67 = .ok (.putfield 151, 3) := by decide +kernel
theorem dX8_readNode_70 : decode cX8_readNode 70 = .ok (.aload_n 0, 1) := by decide +kernel
theorem dX8_readNode_71 : decode cX8_readNode 71 = .ok (.dup, 1) := by decide +kernel
theorem dX8_readNode_72 : decode cX8_readNode 72 = .ok (.getfield 168, 3) := by decide +kernel
theorem dX8_readNode_75 : decode cX8_readNode 75 = .ok (.iconst 1, 1) := by decide +kernel
theorem dX8_readNode_76 : decode cX8_readNode 76 = .ok (.iadd, 1) := by decide +kernel
theorem dX8_readNode_77 : decode cX8_readNode 77 = .ok (.putfield 168, 3) := by decide +kernel
theorem dX8_readNode_80 : decode cX8_readNode 80 = .ok (.aload_n 0, 1) := by decide +kernel
theorem dX8_readNode_81 : decode cX8_readNode 81 = .ok (.iload_n 3, 1) := by decide +kernel
theorem dX8_readNode_82 : decode cX8_readNode 82 = .ok (.invokevirtual 174, 3) := by decide +kernel
theorem dX8_readNode_85 : decode cX8_readNode 85 = .ok (.bipush 6, 2) := by decide +kernel
theorem dX8_readNode_87 : decode cX8_readNode 87 = .ok (.if_icmp .le 5, 3) := by decide +kernel
theorem dX8_readNode_90 : decode cX8_readNode 90 = .ok (.iconst 0, 1) := by decide +kernel
theorem dX8_readNode_91 : decode cX8_readNode 91 = .ok (.ireturn, 1) := by decide +kernel
theorem dX8_readNode_92 : decode cX8_readNode 92 = .ok (.aload_n 0, 1) := by decide +kernel
theorem dX8_readNode_93 : decode cX8_readNode 93 = .ok (.getfield 48, 3) := by decide +kernel
theorem dX8_readNode_96 : decode cX8_readNode 96 = .ok (.iload_n 3, 1) := by decide +kernel
theorem dX8_readNode_97 : decode cX8_readNode 97 = .ok (.iaload, 1) := by decide +kernel
theorem dX8_readNode_98 : decode cX8_readNode 98 = .ok (.ifCond .ne 21, 3) := by decide +kernel
theorem dX8_readNode_101 : decode cX8_readNode 101 = .ok (.iload_n 2, 1) := by decide +kernel
theorem dX8_readNode_102 : decode cX8_readNode 102 = .ok (.ifCond .ne 15, 3) := by decide +kernel
theorem dX8_readNode_105 : decode cX8_readNode 105 = .ok (.aload_n 0, 1) := by decide +kernel
theorem dX8_readNode_106 : decode cX8_readNode 106 = .ok (.iload_n 3, 1) := by decide +kernel
theorem dX8_readNode_107 : decode cX8_readNode 107 = .ok (.invokevirtual 177, 3) := by decide +kernel
theorem dX8_readNode_110 : decode cX8_readNode 110 = .ok (.ifCond .eq 7, 3) := by decide +kernel
theorem dX8_readNode_113 : decode cX8_readNode 113 = .ok (.iconst 1, 1) := by decide +kernel
theorem dX8_readNode_114 : decode cX8_readNode 114 = .ok (.goto 4, 3) := by decide +kernel
theorem dX8_readNode_117 : decode cX8_readNode 117 = .ok (.iconst 0, 1) := by decide +kernel
theorem dX8_readNode_118 : decode cX8_readNode 118 = .ok (.ireturn, 1) := by decide +kernel
theorem dX8_readNode_119 : decode cX8_readNode 119 = .ok (.aload_n 0, 1) := by decide +kernel
theorem dX8_readNode_120 : decode cX8_readNode 120 = .ok (.getfield 48, 3) := by decide +kernel
theorem dX8_readNode_123 : decode cX8_readNode 123 = .ok (.iload_n 3, 1) := by decide +kernel
theorem dX8_readNode_124 : decode cX8_readNode 124 = .ok (.iaload, 1) := by decide +kernel
theorem dX8_readNode_125 : decode cX8_readNode 125 = .ok (.iconst 1, 1) := by decide +kernel
theorem dX8_readNode_126 : decode cX8_readNode 126 = .ok (.if_icmp .eq 13, 3) := by decide +kernel
theorem dX8_readNode_129 : decode cX8_readNode 129 = .ok (.aload_n 0, 1) := by decide +kernel
theorem dX8_readNode_130 : decode cX8_readNode 130 = .ok (.getfield 48, 3) := by decide +kernel
theorem dX8_readNode_133 : decode cX8_readNode 133 = .ok (.iload_n 3, 1) := by decide +kernel
theorem dX8_readNode_134 : decode cX8_readNode 134 = .ok (.iaload, 1) := by decide +kernel
theorem dX8_readNode_135 : decode cX8_readNode 135 = .ok (.iconst 2, 1) := by decide +kernel
theorem dX8_readNode_136 : decode cX8_readNode 136 = .ok (.if_icmp .ne 11, 3) := by decide +kernel
theorem dX8_readNode_139 : decode cX8_readNode 139 = .ok (.aload_n 0, 1) := by decide +kernel
theorem dX8_readNode_140 : decode cX8_readNode 140 = .ok (.iconst 1, 1) := by decide +kernel
theorem dX8_readNode_141 : decode cX8_readNode 141 = .ok (.invokevirtual 161, 3) := by decide +kernel
theorem dX8_readNode_144 : decode cX8_readNode 144 = .ok (.ifCond .ne 5, 3) := by decide +kernel
theorem dX8_readNode_147 : decode cX8_readNode 147 = .ok (.iconst 0, 1) := by decide +kernel
theorem dX8_readNode_148 : decode cX8_readNode 148 = .ok (.ireturn, 1) := by decide +kernel
theorem dX8_readNode_149 : decode cX8_readNode 149 = .ok (.aload_n 0, 1) := by decide +kernel
theorem dX8_readNode_150 : decode cX8_readNode 150 = .ok (.getfield 35, 3) := by decide +kernel
theorem dX8_readNode_153 : decode cX8_readNode 153 = .ok (.aload_n 0, 1) := by decide +kernel
theorem dX8_readNode_154 : decode cX8_readNode 154 = .ok (.getfield 151, 3) := by decide +kernel
theorem dX8_readNode_157 : decode cX8_readNode 157 = .ok (.iaload, 1) := by decide +kernel
theorem dX8_readNode_158 : decode cX8_readNode 158 = .ok (.istore 4, 2) := by decide +kernel
theorem dX8_readNode_160 : decode cX8_readNode 160 = .ok (.aload_n 0, 1) := by decide +kernel
theorem dX8_readNode_161 : decode cX8_readNode 161 = .ok (.dup, 1) := by decide +kernel
theorem dX8_readNode_162 : decode cX8_readNode 162 = .ok (.getfield 151, 3) := by decide +kernel
theorem dX8_readNode_165 : decode cX8_readNode 165 = .ok (.iconst 1, 1) := by decide +kernel
theorem dX8_readNode_166 : decode cX8_readNode 166 = .ok (.iadd, 1) := by decide +kernel
theorem dX8_readNode_167 : decode cX8_readNode 167 = .ok (.putfield 151, 3) := by decide +kernel
theorem dX8_readNode_170 : decode cX8_readNode 170 = .ok (.aload_n 0, 1) := by decide +kernel
theorem dX8_readNode_171 : decode cX8_readNode 171 = .ok (.getfield 48, 3) := by decide +kernel
theorem dX8_readNode_174 : decode cX8_readNode 174 = .ok (.iload_n 3, 1) := by decide +kernel
theorem dX8_readNode_175 : decode cX8_readNode 175 = .ok (.iaload, 1) := by decide +kernel
theorem dX8_readNode_176 : decode cX8_readNode 176 = .ok (.iconst 1, 1) := by decide +kernel
theorem dX8_readNode_177 : decode cX8_readNode 177 = .ok (.if_icmp .ne 12, 3) := by decide +kernel
theorem dX8_readNode_180 : decode cX8_readNode 180 = .ok (.aload_n 0, 1) := by decide +kernel
theorem dX8_readNode_181 : decode cX8_readNode 181 = .ok (.iload_n 3, 1) := by decide +kernel
theorem dX8_readNode_182 : decode cX8_readNode 182 = .ok (.iload 4, 2) := by decide +kernel
theorem dX8_readNode_184 : decode cX8_readNode 184 = .ok (.iload_n 2, 1) := by decide +kernel
theorem dX8_readNode_185 : decode cX8_readNode 185 = .ok (.invokevirtual 180, 3) := by decide +kernel
theorem dX8_readNode_188 : decode cX8_readNode 188 = .ok (.ireturn, 1) := by decide +kernel
theorem dX8_readNode_189 : decode cX8_readNode 189 = .ok (.aload_n 0, 1) := by decide +kernel
theorem dX8_readNode_190 : decode cX8_readNode 190 = .ok (.getfield 54, 3) := by decide +kernel
theorem dX8_readNode_193 : decode cX8_readNode 193 = .ok (.iload_n 3, 1) := by decide +kernel
theorem dX8_readNode_194 : decode cX8_readNode 194 = .ok (.iload 4, 2) := by decide +kernel
theorem dX8_readNode_196 : decode cX8_readNode 196 = .ok (.iastore, 1) := by decide +kernel
theorem dX8_readNode_197 : decode cX8_readNode 197 = .ok (.iload 4, 2) := by decide +kernel
theorem dX8_readNode_199 : decode cX8_readNode 199 = .ok (.iload_n 2, 1) := by decide +kernel
theorem dX8_readNode_200 : decode cX8_readNode 200 = .ok (.ifCond .eq 7, 3) := by decide +kernel
theorem dX8_readNode_203 : decode cX8_readNode 203 = .ok (.iconst 2, 1) := by decide +kernel
theorem dX8_readNode_204 : decode cX8_readNode 204 = .ok (.goto 4, 3) := by decide +kernel
theorem dX8_readNode_207 : decode cX8_readNode 207 = .ok (.iconst 1, 1) := by decide +kernel
theorem dX8_readNode_208 : decode cX8_readNode 208 = .ok (.if_icmp .lt 16, 3) := by decide +kernel
theorem dX8_readNode_211 : decode cX8_readNode 211 = .ok (.iload 4, 2) := by decide +kernel
theorem dX8_readNode_213 : decode cX8_readNode 213 = .ok (.aload_n 0, 1) := by decide +kernel
theorem dX8_readNode_214 : decode cX8_readNode 214 = .ok (.getfield 81, 3) := by decide +kernel
theorem dX8_readNode_217 : decode cX8_readNode 217 = .ok (.if_icmp .gt 7, 3) := by decide +kernel
theorem dX8_readNode_220 : decode cX8_readNode 220 = .ok (.iconst 1, 1) := by decide +kernel
theorem dX8_readNode_221 : decode cX8_readNode 221 = .ok (.goto 4, 3) := by decide +kernel
theorem dX8_readNode_224 : decode cX8_readNode 224 = .ok (.iconst 0, 1) := by decide +kernel
theorem dX8_readNode_225 : decode cX8_readNode 225 = .ok (.ireturn, 1) := by decide +kernel
theorem dX8_read_0 : decode cX8_read 0 = .ok (.aload_n 0, 1) := by decide +kernel
theorem dX8_read_1 : decode cX8_read 1 = .ok (.iconst 0, 1) := by decide +kernel
theorem dX8_read_2 : decode cX8_read 2 = .ok (.putfield 151, 3) := by decide +kernel
theorem dX8_read_5 : decode cX8_read 5 = .ok (.aload_n 0, 1) := by decide +kernel
theorem dX8_read_6 : decode cX8_read 6 = .ok (.iconst 0, 1) := by decide +kernel
theorem dX8_read_7 : decode cX8_read 7 = .ok (.putfield 168, 3) := by decide +kernel
theorem dX8_read_10 : decode cX8_read 10 = .ok (.aload_n 0, 1) := by decide +kernel
theorem dX8_read_11 : decode cX8_read 11 = .ok (.iconst 0, 1) := by decide +kernel
theorem dX8_read_12 : decode cX8_read 12 = .ok (.putfield 154, 3) := by decide +kernel
theorem dX8_read_15 : decode cX8_read 15 = .ok (.aload_n 0, 1) := by decide +kernel
theorem dX8_read_16 : decode cX8_read 16 = .ok (.iconst 0, 1) := by decide +kernel
theorem dX8_read_17 : decode cX8_read 17 = .ok (.invokevirtual 184, 3) := by decide +kernel
theorem dX8_read_20 : decode cX8_read 20 = .ok (.ifCond .ne 5, 3) := by decide +kernel
theorem dX8_read_23 : decode cX8_read 23 = .ok (.iconst 0, 1) := by decide +kernel
theorem dX8_read_24 : decode cX8_read 24 = .ok (.ireturn, 1) := by decide +kernel
theorem dX8_read_25 : decode cX8_read 25 = .ok (.aload_n 0, 1) := by decide +kernel
theorem dX8_read_26 : decode cX8_read 26 = .ok (.invokevirtual 187, 3) := by decide +kernel
theorem dX8_read_29 : decode cX8_read 29 = .ok (.istore_n 1, 1) := by decide +kernel
theorem dX8_read_30 : decode cX8_read 30 = .ok (.iload_n 1, 1) := by decide +kernel
theorem dX8_read_31 : decode cX8_read 31 = .ok (.ifCond .lt 21, 3) := by decide +kernel
theorem dX8_read_34 : decode cX8_read 34 = .ok (.aload_n 0, 1) := by decide +kernel
theorem dX8_read_35 : decode cX8_read 35 = .ok (.iload_n 1, 1) := by decide +kernel
theorem dX8_read_36 : decode cX8_read 36 = .ok (.invokevirtual 184, 3) := by decide +kernel
theorem dX8_read_39 : decode cX8_read 39 = .ok (.ifCond .ne 5, 3) := by decide +kernel
theorem dX8_read_42 : decode cX8_read 42 = .ok (.iconst 0, 1) := by decide +kernel
theorem dX8_read_43 : decode cX8_read 43 = .ok (.ireturn, 1) := by decide +kernel
theorem dX8_read_44 : decode cX8_read 44 = .ok (.aload_n 0, 1) := by decide +kernel
theorem dX8_read_45 : decode cX8_read 45 = .ok (.invokevirtual 187, 3) := by decide +kernel
theorem dX8_read_48 : decode cX8_read 48 = .ok (.istore_n 1, 1) := by decide +kernel
theorem dX8_read_49 : decode cX8_read 49 = .ok (.goto (-19), 3) := by decide +kernel
theorem dX8_read_52 : decode cX8_read 52 = .ok (.aload_n 0, 1) := by decide +kernel
theorem dX8_read_53 : decode cX8_read 53 = .ok (.getfield 151, 3) := by decide +kernel
theorem dX8_read_56 : decode cX8_read 56 = .ok (.aload_n 0, 1) := by decide +kernel
theorem dX8_read_57 : decode cX8_read 57 = .ok (.getfield 131, 3) := by decide +kernel
theorem dX8_read_60 : decode cX8_read 60 = .ok (.if_icmp .ne 7, 3) := by decide +kernel
theorem dX8_read_63 : decode cX8_read 63 = .ok (.iconst 1, 1) := by decide +kernel
theorem dX8_read_64 : decode cX8_read 64 = .ok (.goto 4, 3) := by decide +kernel
theorem dX8_read_67 : decode cX8_read 67 = .ok (.iconst 0, 1) := by decide +kernel
theorem dX8_read_68 : decode cX8_read 68 = .ok (.ireturn, 1) := by decide +kernel
theorem dX8_sums_0 : decode cX8_sums 0 = .ok (.aload_n 0, 1) := by decide +kernel
theorem dX8_sums_1 : decode cX8_sums 1 = .ok (.getfield 168, 3) := by decide +kernel
theorem dX8_sums_4 : decode cX8_sums 4 = .ok (.iconst 1, 1) := by decide +kernel
theorem dX8_sums_5 : decode cX8_sums 5 = .ok (.isub, 1) := by decide +kernel
theorem dX8_sums_6 : decode cX8_sums 6 = .ok (.istore_n 1, 1) := by decide +kernel
theorem dX8_sums_7 : decode cX8_sums 7 = .ok (.iload_n 1, 1) := by decide +kernel
theorem dX8_sums_8 : decode cX8_sums 8 = .ok (.ifCond .lt 94, 3) := by decide +kernel
theorem dX8_sums_11 : decode cX8_sums 11 = .ok (.aload_n 0, 1) := by decide +kernel
theorem dX8_sums_12 : decode cX8_sums 12 = .ok (.getfield 48, 3) := by decide +kernel
theorem dX8_sums_15 : decode cX8_sums 15 = .ok (.iload_n 1, 1) := by decide +kernel
theorem dX8_sums_16 : decode cX8_sums 16 = .ok (.iaload, 1) := by decide +kernel
theorem dX8_sums_17 : decode cX8_sums 17 = .ok (.iconst 1, 1) := by decide +kernel
theorem dX8_sums_18 : decode cX8_sums 18 = .ok (.if_icmp .ne 63, 3) := by decide +kernel
theorem dX8_sums_21 : decode cX8_sums 21 = .ok (.iconst 1, 1) := by decide +kernel
theorem dX8_sums_22 : decode cX8_sums 22 = .ok (.iconst 1, 1) := by decide +kernel
theorem dX8_sums_23 : decode cX8_sums 23 = .ok (.invokestatic 128, 3) := by decide +kernel
theorem dX8_sums_26 : decode cX8_sums 26 = .ok (.aload_n 0, 1) := by decide +kernel
theorem dX8_sums_27 : decode cX8_sums 27 = .ok (.getfield 54, 3) := by decide +kernel
theorem dX8_sums_30 : decode cX8_sums 30 = .ok (.iload_n 1, 1) := by decide +kernel
theorem dX8_sums_31 : decode cX8_sums 31 = .ok (.iaload, 1) := by decide +kernel
theorem dX8_sums_32 : decode cX8_sums 32 = .ok (.invokestatic 128, 3) := by decide +kernel
theorem dX8_sums_35 : decode cX8_sums 35 = .ok (.istore_n 2, 1) := by decide +kernel
theorem dX8_sums_36 : decode cX8_sums 36 = .ok (.iconst 0, 1) := by decide +kernel
theorem dX8_sums_37 : decode cX8_sums 37 = .ok (.istore_n 3, 1) := by decide +kernel
theorem dX8_sums_38 : decode cX8_sums 38 = .ok (.iload_n 3, 1) := by decide +kernel
theorem dX8_sums_39 : decode cX8_sums 39 = .ok (.iconst 2, 1) := by decide +kernel
theorem dX8_sums_40 : decode cX8_sums 40 = .ok (.aload_n 0, 1) := by decide +kernel
theorem dX8_sums_41 : decode cX8_sums 41 = .ok (.getfield 54, 3) := by decide +kernel
theorem dX8_sums_44 : decode cX8_sums 44 = .ok (.iload_n 1, 1) := by decide +kernel
theorem dX8_sums_45 : decode cX8_sums 45 = .ok (.iaload, 1) := by decide +kernel
theorem dX8_sums_46 : decode cX8_sums 46 = .ok (.imul, 1) := by decide +kernel
theorem dX8_sums_47 : decode cX8_sums 47 = .ok (.if_icmp .ge 27, 3) := by decide +kernel
theorem dX8_sums_50 : decode cX8_sums 50 = .ok (.iload_n 2, 1) := by decide +kernel
theorem dX8_sums_51 : decode cX8_sums 51 = .ok (.aload_n 0, 1) := by decide +kernel
theorem dX8_sums_52 : decode cX8_sums 52 = .ok (.getfield 35, 3) := by decide +kernel
theorem dX8_sums_55 : decode cX8_sums 55 = .ok (.aload_n 0, 1) := by decide +kernel
theorem dX8_sums_56 : decode cX8_sums 56 = .ok (.getfield 57, 3) := by decide +kernel
theorem dX8_sums_59 : decode cX8_sums 59 = .ok (.iload_n 1, 1) := by decide +kernel
theorem dX8_sums_60 : decode cX8_sums 60 = .ok (.iaload, 1) := by decide +kernel
theorem dX8_sums_61 : decode cX8_sums 61 = .ok (.iload_n 3, 1) := by decide +kernel
theorem dX8_sums_62 : decode cX8_sums 62 = .ok (.iadd, 1) := by decide +kernel
theorem dX8_sums_63 : decode cX8_sums 63 = .ok (.iaload, 1) := by decide +kernel
theorem dX8_sums_64 : decode cX8_sums 64 = .ok (.invokestatic 128, 3) := by decide +kernel
theorem dX8_sums_67 : decode cX8_sums 67 = .ok (.istore_n 2, 1) := by decide +kernel
theorem dX8_sums_68 : decode cX8_sums 68 = .ok (.iinc 3 1, 3) := by decide +kernel
theorem dX8_sums_71 : decode cX8_sums 71 = .ok (.goto (-33), 3) := by decide +kernel
theorem dX8_sums_74 : decode cX8_sums 74 = .ok (.aload_n 0, 1) := by decide +kernel
theorem dX8_sums_75 : decode cX8_sums 75 = .ok (.getfield 63, 3) := by decide +kernel
theorem dX8_sums_78 : decode cX8_sums 78 = .ok (.iload_n 1, 1) := by decide +kernel
theorem dX8_sums_79 : decode cX8_sums 79 = .ok (.iload_n 2, 1) := by decide +kernel
theorem dX8_sums_80 : decode cX8_sums 80 = .ok (.iastore, 1) := by decide +kernel
theorem dX8_sums_81 : decode cX8_sums 81 = .ok (.aload_n 0, 1) := by decide +kernel
theorem dX8_sums_82 : decode cX8_sums 82 = .ok (.getfield 48, 3) := by decide +kernel
theorem dX8_sums_85 : decode cX8_sums 85 = .ok (.iload_n 1, 1) := by decide +kernel
theorem dX8_sums_86 : decode cX8_sums 86 = .ok (.iaload, 1) := by decide +kernel
theorem dX8_sums_87 : decode cX8_sums 87 = .ok (.iconst 2, 1) := by decide +kernel
theorem dX8_sums_88 : decode cX8_sums 88 = .ok (.if_icmp .ne 8, 3) := by decide +kernel
theorem dX8_sums_91 : decode cX8_sums 91 = .ok (.aload_n 0, 1) := by decide +kernel
theorem dX8_sums_92 : decode cX8_sums 92 = .ok (.iload_n 1, 1) := by decide +kernel
theorem dX8_sums_93 : decode cX8_sums 93 = .ok (.invokevirtual 191, 3) := by decide +kernel
theorem dX8_sums_96 : decode cX8_sums 96 = .ok (.iinc 1 (-1), 3) := by decide +kernel
theorem dX8_sums_99 : decode cX8_sums 99 = .ok (.goto (-92), 3) := by decide +kernel
theorem dX8_sums_102 : decode cX8_sums 102 = .ok (.return_, 1) := by decide +kernel
theorem dX8_sumInner_0 : decode cX8_sumInner 0 = .ok (.iconst 1, 1) := by decide +kernel
theorem dX8_sumInner_1 : decode cX8_sumInner 1 = .ok (.iconst 2, 1) := by decide +kernel
theorem dX8_sumInner_2 : decode cX8_sumInner 2 = .ok (.invokestatic 128, 3) := by decide +kernel
theorem dX8_sumInner_5 : decode cX8_sumInner 5 = .ok (.aload_n 0, 1) := by decide +kernel
theorem dX8_sumInner_6 : decode cX8_sumInner 6 = .ok (.getfield 54, 3) := by decide +kernel
theorem dX8_sumInner_9 : decode cX8_sumInner 9 = .ok (.iload_n 1, 1) := by decide +kernel
theorem dX8_sumInner_10 : decode cX8_sumInner 10 = .ok (.iaload, 1) := by decide +kernel
theorem dX8_sumInner_11 : decode cX8_sumInner 11 = .ok (.invokestatic 128, 3) := by decide +kernel
theorem dX8_sumInner_14 : decode cX8_sumInner 14 = .ok (.istore_n 2, 1) := by decide +kernel
theorem dX8_sumInner_15 : decode cX8_sumInner 15 = .ok (.aload_n 0, 1) := by decide +kernel
theorem dX8_sumInner_16 : decode cX8_sumInner 16 = .ok (.getfield 66, 3) := by decide +kernel
theorem dX8_sumInner_19 : decode cX8_sumInner 19 = .ok (.iload_n 1, 1) := by decide +kernel
theorem dX8_sumInner_20 : decode cX8_sumInner 20 = .ok (.iconst 0, 1) := by decide +kernel
theorem dX8_sumInner_21 : decode cX8_sumInner 21 = .ok (.iastore, 1) := by decide +kernel
theorem dX8_sumInner_22 : decode cX8_sumInner 22 = .ok (.aload_n 0, 1) := by decide +kernel
theorem dX8_sumInner_23 : decode cX8_sumInner 23 = .ok (.getfield 60, 3) := by decide +kernel
theorem dX8_sumInner_26 : decode cX8_sumInner 26 = .ok (.iload_n 1, 1) := by decide +kernel
theorem dX8_sumInner_27 : decode cX8_sumInner 27 = .ok (.aload_n 0, 1) := by decide +kernel
theorem dX8_sumInner_28 : decode cX8_sumInner 28 = .ok (.getfield 60, 3) := by decide +kernel
theorem dX8_sumInner_31 : decode cX8_sumInner 31 = .ok (.iload_n 1, 1) := by decide +kernel
theorem dX8_sumInner_32 : decode cX8_sumInner 32 = .ok (.iconst 1, 1) := by decide +kernel
theorem dX8_sumInner_33 : decode cX8_sumInner 33 = .ok (.iadd, 1) := by decide +kernel
theorem dX8_sumInner_34 : decode cX8_sumInner 34 = .ok (.iaload, 1) := by decide +kernel
theorem dX8_sumInner_35 : decode cX8_sumInner 35 = .ok (.iastore, 1) := by decide +kernel
theorem dX8_sumInner_36 : decode cX8_sumInner 36 = .ok (.iload_n 1, 1) := by decide +kernel
theorem dX8_sumInner_37 : decode cX8_sumInner 37 = .ok (.iconst 1, 1) := by decide +kernel
theorem dX8_sumInner_38 : decode cX8_sumInner 38 = .ok (.iadd, 1) := by decide +kernel
theorem dX8_sumInner_39 : decode cX8_sumInner 39 = .ok (.istore_n 3, 1) := by decide +kernel
theorem dX8_sumInner_40 : decode cX8_sumInner 40 = .ok (.iload_n 3, 1) := by decide +kernel
theorem dX8_sumInner_41 : decode cX8_sumInner 41 = .ok (.aload_n 0, 1) := by decide +kernel
theorem dX8_sumInner_42 : decode cX8_sumInner 42 = .ok (.getfield 168, 3) := by decide +kernel
theorem dX8_sumInner_45 : decode cX8_sumInner 45 = .ok (.if_icmp .ge 67, 3) := by decide +kernel
theorem dX8_sumInner_48 : decode cX8_sumInner 48 = .ok (.aload_n 0, 1) := by decide +kernel
theorem dX8_sumInner_49 : decode cX8_sumInner 49 = .ok (.getfield 51, 3) := by decide +kernel
theorem dX8_sumInner_52 : decode cX8_sumInner 52 = .ok (.iload_n 3, 1) := by decide +kernel
theorem dX8_sumInner_53 : decode cX8_sumInner 53 = .ok (.iaload, 1) := by decide +kernel
theorem dX8_sumInner_54 : decode cX8_sumInner 54 = .ok (.iload_n 1, 1) := by decide +kernel
theorem dX8_sumInner_55 : decode cX8_sumInner 55 = .ok (.if_icmp .ne 51, 3) := by decide +kernel
theorem dX8_sumInner_58 : decode cX8_sumInner 58 = .ok (.iload_n 2, 1) := by decide +kernel
theorem dX8_sumInner_59 : decode cX8_sumInner 59 = .ok (.aload_n 0, 1) := by decide +kernel
theorem dX8_sumInner_60 : decode cX8_sumInner 60 = .ok (.getfield 60, 3) := by decide +kernel
theorem dX8_sumInner_63 : decode cX8_sumInner 63 = .ok (.iload_n 3, 1) := by decide +kernel
theorem dX8_sumInner_64 : decode cX8_sumInner 64 = .ok (.iaload, 1) := by decide +kernel
theorem dX8_sumInner_65 : decode cX8_sumInner 65 = .ok (.invokestatic 128, 3) := by decide +kernel
theorem dX8_sumInner_68 : decode cX8_sumInner 68 = .ok (.aload_n 0, 1) := by decide +kernel
theorem dX8_sumInner_69 : decode cX8_sumInner 69 = .ok (.getfield 63, 3) := by decide +kernel
theorem dX8_sumInner_72 : decode cX8_sumInner 72 = .ok (.iload_n 3, 1) := by decide +kernel
theorem dX8_sumInner_73 : decode cX8_sumInner 73 = .ok (.iaload, 1) := by decide +kernel
theorem dX8_sumInner_74 : decode cX8_sumInner 74 = .ok (.invokestatic 128, 3) := by decide +kernel
theorem dX8_sumInner_77 : decode cX8_sumInner 77 = .ok (.aload_n 0, 1) := by decide +kernel
theorem dX8_sumInner_78 : decode cX8_sumInner 78 = .ok (.getfield 66, 3) := by decide +kernel
theorem dX8_sumInner_81 : decode cX8_sumInner 81 = .ok (.iload_n 3, 1) := by decide +kernel
theorem dX8_sumInner_82 : decode cX8_sumInner 82 = .ok (.iaload, 1) := by decide +kernel
theorem dX8_sumInner_83 : decode cX8_sumInner 83 = .ok (.invokestatic 128, 3) := by decide +kernel
theorem dX8_sumInner_86 : decode cX8_sumInner 86 = .ok (.istore_n 2, 1) := by decide +kernel
theorem dX8_sumInner_87 : decode cX8_sumInner 87 = .ok (.aload_n 0, 1) := by decide +kernel
theorem dX8_sumInner_88 : decode cX8_sumInner 88 = .ok (.getfield 66, 3) := by decide +kernel
theorem dX8_sumInner_91 : decode cX8_sumInner 91 = .ok (.iload_n 1, 1) := by decide +kernel
theorem dX8_sumInner_92 : decode cX8_sumInner 92 = .ok (.aload_n 0, 1) := by decide +kernel
theorem dX8_sumInner_93 : decode cX8_sumInner 93 = .ok (.getfield 66, 3) := by decide +kernel
theorem dX8_sumInner_96 : decode cX8_sumInner 96 = .ok (.iload_n 1, 1) := by decide +kernel
theorem dX8_sumInner_97 : decode cX8_sumInner 97 = .ok (.iaload, 1) := by decide +kernel
theorem dX8_sumInner_98 : decode cX8_sumInner 98 = .ok (.aload_n 0, 1) := by decide +kernel
theorem dX8_sumInner_99 : decode cX8_sumInner 99 = .ok (.getfield 66, 3) := by decide +kernel
theorem dX8_sumInner_102 : decode cX8_sumInner 102 = .ok (.iload_n 3, 1) := by decide +kernel
theorem dX8_sumInner_103 : decode cX8_sumInner 103 = .ok (.iaload, 1) := by decide +kernel
theorem dX8_sumInner_104 : decode cX8_sumInner 104 = .ok (.iadd, 1) := by decide +kernel
theorem dX8_sumInner_105 : decode cX8_sumInner 105 = .ok (.iastore, 1) := by decide +kernel
theorem dX8_sumInner_106 : decode cX8_sumInner 106 = .ok (.iinc 3 1, 3) := by decide +kernel
theorem dX8_sumInner_109 : decode cX8_sumInner 109 = .ok (.goto (-69), 3) := by decide +kernel
theorem dX8_sumInner_112 : decode cX8_sumInner 112 = .ok (.aload_n 0, 1) := by decide +kernel
theorem dX8_sumInner_113 : decode cX8_sumInner 113 = .ok (.getfield 63, 3) := by decide +kernel
theorem dX8_sumInner_116 : decode cX8_sumInner 116 = .ok (.iload_n 1, 1) := by decide +kernel
theorem dX8_sumInner_117 : decode cX8_sumInner 117 = .ok (.iload_n 2, 1) := by decide +kernel
theorem dX8_sumInner_118 : decode cX8_sumInner 118 = .ok (.iastore, 1) := by decide +kernel
theorem dX8_sumInner_119 : decode cX8_sumInner 119 = .ok (.return_, 1) := by decide +kernel
theorem dX8_spans_0 : decode cX8_spans 0 = .ok (.aload_n 0, 1) := by decide +kernel
theorem dX8_spans_1 : decode cX8_spans 1 = .ok (.getfield 69, 3) := by decide +kernel
theorem dX8_spans_4 : decode cX8_spans 4 = .ok (.iconst 0, 1) := by decide +kernel
theorem dX8_spans_5 : decode cX8_spans 5 = .ok (.ldc2_w 134, 3) := by decide +kernel
theorem dX8_spans_8 : decode cX8_spans 8 = .ok (.lastore, 1) := by decide +kernel
theorem dX8_spans_9 : decode cX8_spans 9 = .ok (.aload_n 0, 1) := by decide +kernel
theorem dX8_spans_10 : decode cX8_spans 10 = .ok (.getfield 72, 3) := by decide +kernel
theorem dX8_spans_13 : decode cX8_spans 13 = .ok (.iconst 0, 1) := by decide +kernel
theorem dX8_spans_14 : decode cX8_spans 14 = .ok (.ldc2_w 136, 3) := by decide +kernel
theorem dX8_spans_17 : decode cX8_spans 17 = .ok (.lastore, 1) := by decide +kernel
theorem dX8_spans_18 : decode cX8_spans 18 = .ok (.iconst 0, 1) := by decide +kernel
theorem dX8_spans_19 : decode cX8_spans 19 = .ok (.istore_n 1, 1) := by decide +kernel
theorem dX8_spans_20 : decode cX8_spans 20 = .ok (.iload_n 1, 1) := by decide +kernel
theorem dX8_spans_21 : decode cX8_spans 21 = .ok (.aload_n 0, 1) := by decide +kernel
theorem dX8_spans_22 : decode cX8_spans 22 = .ok (.getfield 168, 3) := by decide +kernel
theorem dX8_spans_25 : decode cX8_spans 25 = .ok (.if_icmp .ge 106, 3) := by decide +kernel
theorem dX8_spans_28 : decode cX8_spans 28 = .ok (.iconst (-1), 1) := by decide +kernel
theorem dX8_spans_29 : decode cX8_spans 29 = .ok (.istore_n 2, 1) := by decide +kernel
theorem dX8_spans_30 : decode cX8_spans 30 = .ok (.iload_n 1, 1) := by decide +kernel
theorem dX8_spans_31 : decode cX8_spans 31 = .ok (.iconst 1, 1) := by decide +kernel
theorem dX8_spans_32 : decode cX8_spans 32 = .ok (.iadd, 1) := by decide +kernel
theorem dX8_spans_33 : decode cX8_spans 33 = .ok (.istore_n 3, 1) := by decide +kernel
theorem dX8_spans_34 : decode cX8_spans 34 = .ok (.iload_n 3, 1) := by decide +kernel
theorem dX8_spans_35 : decode cX8_spans 35 = .ok (.aload_n 0, 1) := by decide +kernel
theorem dX8_spans_36 : decode cX8_spans 36 = .ok (.getfield 168, 3) := by decide +kernel
theorem dX8_spans_39 : decode cX8_spans 39 = .ok (.if_icmp .ge 86, 3) := by decide +kernel
theorem dX8_spans_42 : decode cX8_spans 42 = .ok (.aload_n 0, 1) := by decide +kernel
theorem dX8_spans_43 : decode cX8_spans 43 = .ok (.getfield 48, 3) := by decide +kernel
theorem dX8_spans_46 : decode cX8_spans 46 = .ok (.iload_n 1, 1) := by decide +kernel
theorem dX8_spans_47 : decode cX8_spans 47 = .ok (.iaload, 1) := by decide +kernel
theorem dX8_spans_48 : decode cX8_spans 48 = .ok (.iconst 2, 1) := by decide +kernel
theorem dX8_spans_49 : decode cX8_spans 49 = .ok (.if_icmp .ne 76, 3) := by decide +kernel
theorem dX8_spans_52 : decode cX8_spans 52 = .ok (.aload_n 0, 1) := by decide +kernel
theorem dX8_spans_53 : decode cX8_spans 53 = .ok (.getfield 51, 3) := by decide +kernel
theorem dX8_spans_56 : decode cX8_spans 56 = .ok (.iload_n 3, 1) := by decide +kernel
theorem dX8_spans_57 : decode cX8_spans 57 = .ok (.iaload, 1) := by decide +kernel
theorem dX8_spans_58 : decode cX8_spans 58 = .ok (.iload_n 1, 1) := by decide +kernel
theorem dX8_spans_59 : decode cX8_spans 59 = .ok (.if_icmp .ne 60, 3) := by decide +kernel
theorem dX8_spans_62 : decode cX8_spans 62 = .ok (.aload_n 0, 1) := by decide +kernel
theorem dX8_spans_63 : decode cX8_spans 63 = .ok (.getfield 69, 3) := by decide +kernel
theorem dX8_spans_66 : decode cX8_spans 66 = .ok (.iload_n 3, 1) := by decide +kernel
theorem dX8_spans_67 : decode cX8_spans 67 = .ok (.iload_n 2, 1) := by decide +kernel
theorem dX8_spans_68 : decode cX8_spans 68 = .ok (.ifCond .ge 12, 3) := by decide +kernel
theorem dX8_spans_71 : decode cX8_spans 71 = .ok (.aload_n 0, 1) := by decide +kernel
theorem dX8_spans_72 : decode cX8_spans 72 = .ok (.getfield 69, 3) := by decide +kernel
theorem dX8_spans_75 : decode cX8_spans 75 = .ok (.iload_n 1, 1) := by decide +kernel
theorem dX8_spans_76 : decode cX8_spans 76 = .ok (.laload, 1) := by decide +kernel
theorem dX8_spans_77 : decode cX8_spans 77 = .ok (.goto 10, 3) := by decide +kernel
theorem dX8_spans_80 : decode cX8_spans 80 = .ok (.aload_n 0, 1) := by decide +kernel
theorem dX8_spans_81 : decode cX8_spans 81 = .ok (.getfield 60, 3) := by decide +kernel
theorem dX8_spans_84 : decode cX8_spans 84 = .ok (.iload_n 3, 1) := by decide +kernel
theorem dX8_spans_85 : decode cX8_spans 85 = .ok (.iaload, 1) := by decide +kernel
theorem dX8_spans_86 : decode cX8_spans 86 = .ok (.i2l, 1) := by decide +kernel
theorem dX8_spans_87 : decode cX8_spans 87 = .ok (.lastore, 1) := by decide +kernel
theorem dX8_spans_88 : decode cX8_spans 88 = .ok (.iload_n 2, 1) := by decide +kernel
theorem dX8_spans_89 : decode cX8_spans 89 = .ok (.ifCond .lt 16, 3) := by decide +kernel
theorem dX8_spans_92 : decode cX8_spans 92 = .ok (.aload_n 0, 1) := by decide +kernel
theorem dX8_spans_93 : decode cX8_spans 93 = .ok (.getfield 72, 3) := by decide +kernel
theorem dX8_spans_96 : decode cX8_spans 96 = .ok (.iload_n 2, 1) := by decide +kernel
theorem dX8_spans_97 : decode cX8_spans 97 = .ok (.aload_n 0, 1) := by decide +kernel
theorem dX8_spans_98 : decode cX8_spans 98 = .ok (.getfield 60, 3) := by decide +kernel
theorem dX8_spans_101 : decode cX8_spans 101 = .ok (.iload_n 3, 1) := by decide +kernel
theorem dX8_spans_102 : decode cX8_spans 102 = .ok (.iaload, 1) := by decide +kernel
theorem dX8_spans_103 : decode cX8_spans 103 = .ok (.i2l, 1) := by decide +kernel
theorem dX8_spans_104 : decode cX8_spans 104 = .ok (.lastore, 1) := by decide +kernel
theorem dX8_spans_105 : decode cX8_spans 105 = .ok (.aload_n 0, 1) := by decide +kernel
theorem dX8_spans_106 : decode cX8_spans 106 = .ok (.getfield 72, 3) := by decide +kernel
theorem dX8_spans_109 : decode cX8_spans 109 = .ok (.iload_n 3, 1) := by decide +kernel
theorem dX8_spans_110 : decode cX8_spans 110 = .ok (.aload_n 0, 1) := by decide +kernel
theorem dX8_spans_111 : decode cX8_spans 111 = .ok (.getfield 72, 3) := by decide +kernel
theorem dX8_spans_114 : decode cX8_spans 114 = .ok (.iload_n 1, 1) := by decide +kernel
theorem dX8_spans_115 : decode cX8_spans 115 = .ok (.laload, 1) := by decide +kernel
theorem dX8_spans_116 : decode cX8_spans 116 = .ok (.lastore, 1) := by decide +kernel
theorem dX8_spans_117 : decode cX8_spans 117 = .ok (.iload_n 3, 1) := by decide +kernel
theorem dX8_spans_118 : decode cX8_spans 118 = .ok (.istore_n 2, 1) := by decide +kernel
theorem dX8_spans_119 : decode cX8_spans 119 = .ok (.iinc 3 1, 3) := by decide +kernel
theorem dX8_spans_122 : decode cX8_spans 122 = .ok (.goto (-88), 3) := by decide +kernel
theorem dX8_spans_125 : decode cX8_spans 125 = .ok (.iinc 1 1, 3) := by decide +kernel
theorem dX8_spans_128 : decode cX8_spans 128 = .ok (.goto (-108), 3) := by decide +kernel
theorem dX8_spans_131 : decode cX8_spans 131 = .ok (.return_, 1) := by decide +kernel
theorem dX8_isRight_0 : decode cX8_isRight 0 = .ok (.iload_n 2, 1) := by decide +kernel
theorem dX8_isRight_1 : decode cX8_isRight 1 = .ok (.iload_n 3, 1) := by decide +kernel
theorem dX8_isRight_2 : decode cX8_isRight 2 = .ok (.if_icmp .gt 10, 3) := by decide +kernel
theorem dX8_isRight_5 : decode cX8_isRight 5 = .ok (.aload_n 0, 1) := by decide +kernel
theorem dX8_isRight_6 : decode cX8_isRight 6 = .ok (.invokevirtual 194, 3) := by decide +kernel
theorem dX8_isRight_9 : decode cX8_isRight 9 = .ok (.ifCond .ne 5, 3) := by decide +kernel
theorem dX8_isRight_12 : decode cX8_isRight 12 = .ok (.iconst 0, 1) := by decide +kernel
theorem dX8_isRight_13 : decode cX8_isRight 13 = .ok (.ireturn, 1) := by decide +kernel
theorem dX8_isRight_14 : decode cX8_isRight 14 = .ok (.aload_n 0, 1) := by decide +kernel
theorem dX8_isRight_15 : decode cX8_isRight 15 = .ok (.invokevirtual 198, 3) := by decide +kernel
theorem dX8_isRight_18 : decode cX8_isRight 18 = .ok (.aload_n 0, 1) := by decide +kernel
theorem dX8_isRight_19 : decode cX8_isRight 19 = .ok (.invokevirtual 201, 3) := by decide +kernel
theorem dX8_isRight_22 : decode cX8_isRight 22 = .ok (.aload_n 0, 1) := by decide +kernel
theorem dX8_isRight_23 : decode cX8_isRight 23 = .ok (.getfield 63, 3) := by decide +kernel
theorem dX8_isRight_26 : decode cX8_isRight 26 = .ok (.iconst 0, 1) := by decide +kernel
theorem dX8_isRight_27 : decode cX8_isRight 27 = .ok (.iaload, 1) := by decide +kernel
theorem dX8_isRight_28 : decode cX8_isRight 28 = .ok (.iload_n 1, 1) := by decide +kernel
theorem dX8_isRight_29 : decode cX8_isRight 29 = .ok (.if_icmp .ne 7, 3) := by decide +kernel
theorem dX8_isRight_32 : decode cX8_isRight 32 = .ok (.iconst 1, 1) := by decide +kernel
theorem dX8_isRight_33 : decode cX8_isRight 33 = .ok (.goto 4, 3) := by decide +kernel
theorem dX8_isRight_36 : decode cX8_isRight 36 = .ok (.iconst 0, 1) := by decide +kernel
theorem dX8_isRight_37 : decode cX8_isRight 37 = .ok (.istore 5, 2) := by decide +kernel
theorem dX8_isRight_39 : decode cX8_isRight 39 = .ok (.iconst 1, 1) := by decide +kernel
theorem dX8_isRight_40 : decode cX8_isRight 40 = .ok (.istore 6, 2) := by decide +kernel
theorem dX8_isRight_42 : decode cX8_isRight 42 = .ok (.iload 6, 2) := by decide +kernel
theorem dX8_isRight_44 : decode cX8_isRight 44 = .ok (.aload_n 0, 1) := by decide +kernel
theorem dX8_isRight_45 : decode cX8_isRight 45 = .ok (.getfield 168, 3) := by decide +kernel
theorem dX8_isRight_48 : decode cX8_isRight 48 = .ok (.if_icmp .ge 60, 3) := by decide +kernel
theorem dX8_isRight_51 : decode cX8_isRight 51 = .ok (.iload 5, 2) := by decide +kernel
theorem dX8_isRight_53 : decode cX8_isRight 53 = .ok (.ifCond .eq 46, 3) := by decide +kernel
theorem dX8_isRight_56 : decode cX8_isRight 56 = .ok (.aload_n 0, 1) := by decide +kernel
theorem dX8_isRight_57 : decode cX8_isRight 57 = .ok (.getfield 48, 3) := by decide +kernel
theorem dX8_isRight_60 : decode cX8_isRight 60 = .ok (.iload 6, 2) := by decide +kernel
theorem dX8_isRight_62 : decode cX8_isRight 62 = .ok (.iaload, 1) := by decide +kernel
theorem dX8_isRight_63 : decode cX8_isRight 63 = .ok (.ifCond .ne 7, 3) := by decide +kernel
theorem dX8_isRight_66 : decode cX8_isRight 66 = .ok (.iconst 1, 1) := by decide +kernel
theorem dX8_isRight_67 : decode cX8_isRight 67 = .ok (.goto 4, 3) := by decide +kernel
theorem dX8_isRight_70 : decode cX8_isRight 70 = .ok (.iconst 0, 1) := by decide +kernel
theorem dX8_isRight_71 : decode cX8_isRight 71 = .ok (.aload_n 0, 1) := by decide +kernel
theorem dX8_isRight_72 : decode cX8_isRight 72 = .ok (.getfield 69, 3) := by decide +kernel
theorem dX8_isRight_75 : decode cX8_isRight 75 = .ok (.iload 6, 2) := by decide +kernel
theorem dX8_isRight_77 : decode cX8_isRight 77 = .ok (.laload, 1) := by decide +kernel
theorem dX8_isRight_78 : decode cX8_isRight 78 = .ok (.aload_n 0, 1) := by decide +kernel
theorem dX8_isRight_79 : decode cX8_isRight 79 = .ok (.getfield 72, 3) := by decide +kernel
theorem dX8_isRight_82 : decode cX8_isRight 82 = .ok (.iload 6, 2) := by decide +kernel
theorem dX8_isRight_84 : decode cX8_isRight 84 = .ok (.laload, 1) := by decide +kernel
theorem dX8_isRight_85 : decode cX8_isRight 85 = .ok (.iload_n 2, 1) := by decide +kernel
theorem dX8_isRight_86 : decode cX8_isRight 86 = .ok (.iload_n 3, 1) := by decide +kernel
theorem dX8_isRight_87 : decode cX8_isRight 87 = .ok (.iload 4, 2) := by decide +kernel
theorem dX8_isRight_89 : decode cX8_isRight 89 = .ok (.invokestatic 138, 3) := by decide +kernel
theorem dX8_isRight_92 : decode cX8_isRight 92 = .ok (.if_icmp .ne 7, 3) := by decide +kernel
theorem dX8_isRight_95 : decode cX8_isRight 95 = .ok (.iconst 1, 1) := by decide +kernel
theorem dX8_isRight_96 : decode cX8_isRight 96 = .ok (.goto 4, 3) := by decide +kernel
theorem dX8_isRight_99 : decode cX8_isRight 99 = .ok (.iconst 0, 1) := by decide +kernel
theorem dX8_isRight_100 : decode cX8_isRight 100 = .ok (.istore 5, 2) := by decide +kernel
theorem dX8_isRight_102 : decode cX8_isRight 102 = .ok (.iinc 6 1, 3) := by decide +kernel
theorem dX8_isRight_105 : decode cX8_isRight 105 = .ok (.goto (-63), 3) := by decide +kernel
theorem dX8_isRight_108 : decode cX8_isRight 108 = .ok (.iload 5, 2) := by decide +kernel
theorem dX8_isRight_110 : decode cX8_isRight 110 = .ok (.ireturn, 1) := by decide +kernel
theorem dX8_rows_0 : decode cX8_rows 0 = .ok (.iconst 0, 1) := by decide +kernel
theorem dX8_rows_1 : decode cX8_rows 1 = .ok (.istore 4, 2) := by decide +kernel
theorem dX8_rows_3 : decode cX8_rows 3 = .ok (.iconst 0, 1) := by decide +kernel
theorem dX8_rows_4 : decode cX8_rows 4 = .ok (.istore 5, 2) := by decide +kernel
theorem dX8_rows_6 : decode cX8_rows 6 = .ok (.iload 5, 2) := by decide +kernel
theorem dX8_rows_8 : decode cX8_rows 8 = .ok (.aload_n 0, 1) := by decide +kernel
theorem dX8_rows_9 : decode cX8_rows 9 = .ok (.getfield 168, 3) := by decide +kernel
theorem dX8_rows_12 : decode cX8_rows 12 = .ok (.if_icmp .ge 118, 3) := by decide +kernel
theorem dX8_rows_15 : decode cX8_rows 15 = .ok (.iconst 0, 1) := by decide +kernel
theorem dX8_rows_16 : decode cX8_rows 16 = .ok (.istore 6, 2) := by decide +kernel
theorem dX8_rows_18 : decode cX8_rows 18 = .ok (.iload 6, 2) := by decide +kernel
theorem dX8_rows_20 : decode cX8_rows 20 = .ok (.aload_n 0, 1) := by decide +kernel
theorem dX8_rows_21 : decode cX8_rows 21 = .ok (.getfield 48, 3) := by decide +kernel
theorem dX8_rows_24 : decode cX8_rows 24 = .ok (.iload 5, 2) := by decide +kernel
theorem dX8_rows_26 : decode cX8_rows 26 = .ok (.iaload, 1) := by decide +kernel
theorem dX8_rows_27 : decode cX8_rows 27 = .ok (.iconst 1, 1) := by decide +kernel
theorem dX8_rows_28 : decode cX8_rows 28 = .ok (.if_icmp .ne 13, 3) := by decide +kernel
theorem dX8_rows_31 : decode cX8_rows 31 = .ok (.aload_n 0, 1) := by decide +kernel
theorem dX8_rows_32 : decode cX8_rows 32 = .ok (.getfield 54, 3) := by decide +kernel
theorem dX8_rows_35 : decode cX8_rows 35 = .ok (.iload 5, 2) := by decide +kernel
theorem dX8_rows_37 : decode cX8_rows 37 = .ok (.iaload, 1) := by decide +kernel
theorem dX8_rows_38 : decode cX8_rows 38 = .ok (.goto 4, 3) := by decide +kernel
theorem dX8_rows_41 : decode cX8_rows 41 = .ok (.iconst 0, 1) := by decide +kernel
theorem dX8_rows_42 : decode cX8_rows 42 = .ok (.if_icmp .ge 82, 3) := by decide +kernel
theorem dX8_rows_45 : decode cX8_rows 45 = .ok (.aload_n 0, 1) := by decide +kernel
theorem dX8_rows_46 : decode cX8_rows 46 = .ok (.getfield 35, 3) := by decide +kernel
theorem dX8_rows_49 : decode cX8_rows 49 = .ok (.aload_n 0, 1) := by decide +kernel
theorem dX8_rows_50 : decode cX8_rows 50 = .ok (.getfield 57, 3) := by decide +kernel
theorem dX8_rows_53 : decode cX8_rows 53 = .ok (.iload 5, 2) := by decide +kernel
theorem dX8_rows_55 : decode cX8_rows 55 = .ok (.iaload, 1) := by decide +kernel
theorem dX8_rows_56 : decode cX8_rows 56 = .ok (.iconst 2, 1) := by decide +kernel
theorem dX8_rows_57 : decode cX8_rows 57 = .ok (.iload 6, 2) := by decide +kernel
theorem dX8_rows_59 : decode cX8_rows 59 = .ok (.imul, 1) := by decide +kernel
theorem dX8_rows_60 : decode cX8_rows 60 = .ok (.iadd, 1) := by decide +kernel
theorem dX8_rows_61 : decode cX8_rows 61 = .ok (.iaload, 1) := by decide +kernel
theorem dX8_rows_62 : decode cX8_rows 62 = .ok (.istore 7, 2) := by decide +kernel
theorem dX8_rows_64 : decode cX8_rows 64 = .ok (.iload 7, 2) := by decide +kernel
theorem dX8_rows_66 : decode cX8_rows 66 = .ok (.iload_n 1, 1) := by decide +kernel
theorem dX8_rows_67 : decode cX8_rows 67 = .ok (.if_icmp .lt 51, 3) := by decide +kernel
theorem dX8_rows_70 : decode cX8_rows 70 = .ok (.iload 7, 2) := by decide +kernel
theorem dX8_rows_72 : decode cX8_rows 72 = .ok (.iload_n 2, 1) := by decide +kernel
theorem dX8_rows_73 : decode cX8_rows 73 = .ok (.if_icmp .gt 45, 3) := by decide +kernel
theorem dX8_rows_76 : decode cX8_rows 76 = .ok (.iload_n 3, 1) := by decide +kernel
theorem dX8_rows_77 : decode cX8_rows 77 = .ok (.ifCond .eq 38, 3) := by decide +kernel
theorem dX8_rows_80 : decode cX8_rows 80 = .ok (.aload_n 0, 1) := by decide +kernel
theorem dX8_rows_81 : decode cX8_rows 81 = .ok (.getfield 75, 3) := by decide +kernel
theorem dX8_rows_84 : decode cX8_rows 84 = .ok (.iload 4, 2) := by decide +kernel
theorem dX8_rows_86 : decode cX8_rows 86 = .ok (.iload 7, 2) := by decide +kernel
theorem dX8_rows_88 : decode cX8_rows 88 = .ok (.iastore, 1) := by decide +kernel
theorem dX8_rows_89 : decode cX8_rows 89 = .ok (.aload_n 0, 1) := by decide +kernel
theorem dX8_rows_90 : decode cX8_rows 90 = .ok (.getfield 78, 3) := by decide +kernel
theorem dX8_rows_93 : decode cX8_rows 93 = .ok (.iload 4, 2) := by decide +kernel
theorem dX8_rows_95 : decode cX8_rows 95 = .ok (.aload_n 0, 1) := by decide +kernel
theorem dX8_rows_96 : decode cX8_rows 96 = .ok (.getfield 35, 3) := by decide +kernel
theorem dX8_rows_99 : decode cX8_rows 99 = .ok (.aload_n 0, 1) := by decide +kernel
theorem dX8_rows_100 : decode cX8_rows 100 = .ok (.getfield 57, 3) := by decide +kernel
theorem dX8_rows_103 : decode cX8_rows 103 = .ok (.iload 5, 2) := by decide +kernel
theorem dX8_rows_105 : decode cX8_rows 105 = .ok (.iaload, 1) := by decide +kernel
theorem dX8_rows_106 : decode cX8_rows 106 = .ok (.iconst 2, 1) := by decide +kernel
theorem dX8_rows_107 : decode cX8_rows 107 = .ok (.iload 6, 2) := by decide +kernel
theorem dX8_rows_109 : decode cX8_rows 109 = .ok (.imul, 1) := by decide +kernel
theorem dX8_rows_110 : decode cX8_rows 110 = .ok (.iadd, 1) := by decide +kernel
theorem dX8_rows_111 : decode cX8_rows 111 = .ok (.iconst 1, 1) := by decide +kernel
theorem dX8_rows_112 : decode cX8_rows 112 = .ok (.iadd, 1) := by decide +kernel
theorem dX8_rows_113 : decode cX8_rows 113 = .ok (.iaload, 1) := by decide +kernel
theorem dX8_rows_114 : decode cX8_rows 114 = .ok (.iastore, 1) := by decide +kernel
theorem dX8_rows_115 : decode cX8_rows 115 = .ok (.iinc 4 1, 3) := by decide +kernel
theorem dX8_rows_118 : decode cX8_rows 118 = .ok (.iinc 6 1, 3) := by decide +kernel
theorem dX8_rows_121 : decode cX8_rows 121 = .ok (.goto (-103), 3) := by decide +kernel
theorem dX8_rows_124 : decode cX8_rows 124 = .ok (.iinc 5 1, 3) := by decide +kernel
theorem dX8_rows_127 : decode cX8_rows 127 = .ok (.goto (-121), 3) := by decide +kernel
theorem dX8_rows_130 : decode cX8_rows 130 = .ok (.iload 4, 2) := by decide +kernel
theorem dX8_rows_132 : decode cX8_rows 132 = .ok (.ireturn, 1) := by decide +kernel
theorem dX8_check_0 : decode cX8_check 0 = .ok (.aload_n 0, 1) := by decide +kernel
theorem dX8_check_1 : decode cX8_check 1 = .ok (.iload_n 1, 1) := by decide +kernel
theorem dX8_check_2 : decode cX8_check 2 = .ok (.iload_n 2, 1) := by decide +kernel
theorem dX8_check_3 : decode cX8_check 3 = .ok (.iload_n 3, 1) := by decide +kernel
theorem dX8_check_4 : decode cX8_check 4 = .ok (.iconst 0, 1) := by decide +kernel
theorem dX8_check_5 : decode cX8_check 5 = .ok (.invokevirtual 204, 3) := by decide +kernel
theorem dX8_check_8 : decode cX8_check 8 = .ok (.ifCond .ne 5, 3) := by decide +kernel
theorem dX8_check_11 : decode cX8_check 11 = .ok (.iconst (-1), 1) := by decide +kernel
theorem dX8_check_12 : decode cX8_check 12 = .ok (.ireturn, 1) := by decide +kernel
theorem dX8_check_13 : decode cX8_check 13 = .ok (.aload_n 0, 1) := by decide +kernel
theorem dX8_check_14 : decode cX8_check 14 = .ok (.aload_n 0, 1) := by decide +kernel
theorem dX8_check_15 : decode cX8_check 15 = .ok (.iload_n 2, 1) := by decide +kernel
theorem dX8_check_16 : decode cX8_check 16 = .ok (.iload_n 3, 1) := by decide +kernel
theorem dX8_check_17 : decode cX8_check 17 = .ok (.iconst 1, 1) := by decide +kernel
theorem dX8_check_18 : decode cX8_check 18 = .ok (.invokevirtual 208, 3) := by decide +kernel
theorem dX8_check_21 : decode cX8_check 21 = .ok (.putfield 212, 3) := by decide +kernel
theorem dX8_check_24 : decode cX8_check 24 = .ok (.aload_n 0, 1) := by decide +kernel
theorem dX8_check_25 : decode cX8_check 25 = .ok (.getfield 212, 3) := by decide +kernel
theorem dX8_check_28 : decode cX8_check 28 = .ok (.ireturn, 1) := by decide +kernel
theorem dX8_count_0 : decode cX8_count 0 = .ok (.aload_n 0, 1) := by decide +kernel
theorem dX8_count_1 : decode cX8_count 1 = .ok (.iload_n 1, 1) := by decide +kernel
theorem dX8_count_2 : decode cX8_count 2 = .ok (.iload_n 2, 1) := by decide +kernel
theorem dX8_count_3 : decode cX8_count 3 = .ok (.iload_n 3, 1) := by decide +kernel
theorem dX8_count_4 : decode cX8_count 4 = .ok (.iconst 1, 1) := by decide +kernel
theorem dX8_count_5 : decode cX8_count 5 = .ok (.invokevirtual 204, 3) := by decide +kernel
theorem dX8_count_8 : decode cX8_count 8 = .ok (.ifCond .ne 5, 3) := by decide +kernel
theorem dX8_count_11 : decode cX8_count 11 = .ok (.iconst (-1), 1) := by decide +kernel
theorem dX8_count_12 : decode cX8_count 12 = .ok (.ireturn, 1) := by decide +kernel
theorem dX8_count_13 : decode cX8_count 13 = .ok (.aload_n 0, 1) := by decide +kernel
theorem dX8_count_14 : decode cX8_count 14 = .ok (.iload_n 2, 1) := by decide +kernel
theorem dX8_count_15 : decode cX8_count 15 = .ok (.iload_n 3, 1) := by decide +kernel
theorem dX8_count_16 : decode cX8_count 16 = .ok (.iconst 0, 1) := by decide +kernel
theorem dX8_count_17 : decode cX8_count 17 = .ok (.invokevirtual 208, 3) := by decide +kernel
theorem dX8_count_20 : decode cX8_count 20 = .ok (.istore 4, 2) := by decide +kernel
theorem dX8_count_22 : decode cX8_count 22 = .ok (.iconst 1, 1) := by decide +kernel
theorem dX8_count_23 : decode cX8_count 23 = .ok (.istore 5, 2) := by decide +kernel
theorem dX8_count_25 : decode cX8_count 25 = .ok (.iload 5, 2) := by decide +kernel
theorem dX8_count_27 : decode cX8_count 27 = .ok (.aload_n 0, 1) := by decide +kernel
theorem dX8_count_28 : decode cX8_count 28 = .ok (.getfield 168, 3) := by decide +kernel
theorem dX8_count_31 : decode cX8_count 31 = .ok (.if_icmp .ge 64, 3) := by decide +kernel
theorem dX8_count_34 : decode cX8_count 34 = .ok (.aload_n 0, 1) := by decide +kernel
theorem dX8_count_35 : decode cX8_count 35 = .ok (.getfield 48, 3) := by decide +kernel
theorem dX8_count_38 : decode cX8_count 38 = .ok (.iload 5, 2) := by decide +kernel
theorem dX8_count_40 : decode cX8_count 40 = .ok (.iaload, 1) := by decide +kernel
theorem dX8_count_41 : decode cX8_count 41 = .ok (.ifCond .ne 44, 3) := by decide +kernel
theorem dX8_count_44 : decode cX8_count 44 = .ok (.aload_n 0, 1) := by decide +kernel
theorem dX8_count_45 : decode cX8_count 45 = .ok (.getfield 69, 3) := by decide +kernel
theorem dX8_count_48 : decode cX8_count 48 = .ok (.iload 5, 2) := by decide +kernel
theorem dX8_count_50 : decode cX8_count 50 = .ok (.laload, 1) := by decide +kernel
theorem dX8_count_51 : decode cX8_count 51 = .ok (.iload_n 2, 1) := by decide +kernel
theorem dX8_count_52 : decode cX8_count 52 = .ok (.i2l, 1) := by decide +kernel
theorem dX8_count_53 : decode cX8_count 53 = .ok (.lcmp, 1) := by decide +kernel
theorem dX8_count_54 : decode cX8_count 54 = .ok (.ifCond .lt 31, 3) := by decide +kernel
theorem dX8_count_57 : decode cX8_count 57 = .ok (.aload_n 0, 1) := by decide +kernel
theorem dX8_count_58 : decode cX8_count 58 = .ok (.getfield 72, 3) := by decide +kernel
theorem dX8_count_61 : decode cX8_count 61 = .ok (.iload 5, 2) := by decide +kernel
theorem dX8_count_63 : decode cX8_count 63 = .ok (.laload, 1) := by decide +kernel
theorem dX8_count_64 : decode cX8_count 64 = .ok (.iload_n 3, 1) := by decide +kernel
theorem dX8_count_65 : decode cX8_count 65 = .ok (.i2l, 1) := by decide +kernel
theorem dX8_count_66 : decode cX8_count 66 = .ok (.lconst 1, 1) := by decide +kernel
theorem dX8_count_67 : decode cX8_count 67 = .ok (.ladd, 1) := by decide +kernel
theorem dX8_count_68 : decode cX8_count 68 = .ok (.lcmp, 1) := by decide +kernel
theorem dX8_count_69 : decode cX8_count 69 = .ok (.ifCond .gt 16, 3) := by decide +kernel
theorem dX8_count_72 : decode cX8_count 72 = .ok (.iload 4, 2) := by decide +kernel
theorem dX8_count_74 : decode cX8_count 74 = .ok (.aload_n 0, 1) := by decide +kernel
theorem dX8_count_75 : decode cX8_count 75 = .ok (.getfield 66, 3) := by decide +kernel
theorem dX8_count_78 : decode cX8_count 78 = .ok (.iload 5, 2) := by decide +kernel
theorem dX8_count_80 : decode cX8_count 80 = .ok (.iaload, 1) := by decide +kernel
theorem dX8_count_81 : decode cX8_count 81 = .ok (.iadd, 1) := by decide +kernel
theorem dX8_count_82 : decode cX8_count 82 = .ok (.goto 5, 3) := by decide +kernel
theorem dX8_count_85 : decode cX8_count 85 = .ok (.iload 4, 2) := by decide +kernel
theorem dX8_count_87 : decode cX8_count 87 = .ok (.istore 4, 2) := by decide +kernel
theorem dX8_count_89 : decode cX8_count 89 = .ok (.iinc 5 1, 3) := by decide +kernel
theorem dX8_count_92 : decode cX8_count 92 = .ok (.goto (-67), 3) := by decide +kernel
theorem dX8_count_95 : decode cX8_count 95 = .ok (.iload 4, 2) := by decide +kernel
theorem dX8_count_97 : decode cX8_count 97 = .ok (.ireturn, 1) := by decide +kernel
theorem dX8_row_0 : decode cX8_row 0 = .ok (.iload_n 1, 1) := by decide +kernel
theorem dX8_row_1 : decode cX8_row 1 = .ok (.ifCond .lt 11, 3) := by decide +kernel
theorem dX8_row_4 : decode cX8_row 4 = .ok (.iload_n 1, 1) := by decide +kernel
theorem dX8_row_5 : decode cX8_row 5 = .ok (.aload_n 0, 1) := by decide +kernel
theorem dX8_row_6 : decode cX8_row 6 = .ok (.getfield 212, 3) := by decide +kernel
theorem dX8_row_9 : decode cX8_row 9 = .ok (.if_icmp .lt 5, 3) := by decide +kernel
theorem dX8_row_12 : decode cX8_row 12 = .ok (.iconst 0, 1) := by decide +kernel
theorem dX8_row_13 : decode cX8_row 13 = .ok (.ireturn, 1) := by decide +kernel
theorem dX8_row_14 : decode cX8_row 14 = .ok (.iload_n 2, 1) := by decide +kernel
theorem dX8_row_15 : decode cX8_row 15 = .ok (.ifCond .ne 12, 3) := by decide +kernel
theorem dX8_row_18 : decode cX8_row 18 = .ok (.aload_n 0, 1) := by decide +kernel
theorem dX8_row_19 : decode cX8_row 19 = .ok (.getfield 75, 3) := by decide +kernel
theorem dX8_row_22 : decode cX8_row 22 = .ok (.iload_n 1, 1) := by decide +kernel
theorem dX8_row_23 : decode cX8_row 23 = .ok (.iaload, 1) := by decide +kernel
theorem dX8_row_24 : decode cX8_row 24 = .ok (.goto 18, 3) := by decide +kernel
theorem dX8_row_27 : decode cX8_row 27 = .ok (.iload_n 2, 1) := by decide +kernel
theorem dX8_row_28 : decode cX8_row 28 = .ok (.iconst 1, 1) := by decide +kernel
theorem dX8_row_29 : decode cX8_row 29 = .ok (.if_icmp .ne 12, 3) := by decide +kernel
theorem dX8_row_32 : decode cX8_row 32 = .ok (.aload_n 0, 1) := by decide +kernel
theorem dX8_row_33 : decode cX8_row 33 = .ok (.getfield 78, 3) := by decide +kernel
theorem dX8_row_36 : decode cX8_row 36 = .ok (.iload_n 1, 1) := by decide +kernel
theorem dX8_row_37 : decode cX8_row 37 = .ok (.iaload, 1) := by decide +kernel
theorem dX8_row_38 : decode cX8_row 38 = .ok (.goto 4, 3) := by decide +kernel
theorem dX8_row_41 : decode cX8_row 41 = .ok (.iconst 0, 1) := by decide +kernel
theorem dX8_row_42 : decode cX8_row 42 = .ok (.ireturn, 1) := by decide +kernel
