theorem d_Lw_law_0 : decode code 0 = .ok (.new 7, 3) := by decide +kernel
theorem d_Lw_law_3 : decode code 3 = .ok (.dup, 1) := by decide +kernel
theorem d_Lw_law_4 : decode code 4 = .ok (.invokespecial 9, 3) := by decide +kernel
theorem d_Lw_law_7 : decode code 7 = .ok (.astore_n 1, 1) := by decide +kernel
theorem d_Lw_law_8 : decode code 8 = .ok (.new 10, 3) := by decide +kernel
theorem d_Lw_law_11 : decode code 11 = .ok (.dup, 1) := by decide +kernel
theorem d_Lw_law_12 : decode code 12 = .ok (.invokespecial 12, 3) := by decide +kernel
theorem d_Lw_law_15 : decode code 15 = .ok (.astore_n 2, 1) := by decide +kernel
theorem d_Lw_law_16 : decode code 16 = .ok (.iconst 0, 1) := by decide +kernel
theorem d_Lw_law_17 : decode code 17 = .ok (.istore_n 3, 1) := by decide +kernel
theorem d_Lw_law_18 : decode code 18 = .ok (.iload_n 3, 1) := by decide +kernel
theorem d_Lw_law_19 : decode code 19 = .ok (.aload_n 0, 1) := by decide +kernel
theorem d_Lw_law_20 : decode code 20 = .ok (.arraylength, 1) := by decide +kernel
theorem d_Lw_law_21 : decode code 21 = .ok (.iconst 5, 1) := by decide +kernel
theorem d_Lw_law_22 : decode code 22 = .ok (.isub, 1) := by decide +kernel
theorem d_Lw_law_23 : decode code 23 = .ok (.if_icmp .gt 701, 3) := by decide +kernel
theorem d_Lw_law_26 : decode code 26 = .ok (.aload_n 0, 1) := by decide +kernel
theorem d_Lw_law_27 : decode code 27 = .ok (.iload_n 3, 1) := by decide +kernel
theorem d_Lw_law_28 : decode code 28 = .ok (.iaload, 1) := by decide +kernel
theorem d_Lw_law_29 : decode code 29 = .ok (.bipush 31, 2) := by decide +kernel
theorem d_Lw_law_31 : decode code 31 = .ok (.iand, 1) := by decide +kernel
theorem d_Lw_law_32 : decode code 32 = .ok (.tableswitch 686 0 19 #[96, 119, 162, 175, 218, 241, 284, 317, 340, 383, 406, 449, 472, 515, 528, 561, 574, 627, 650, 663], 96) := by decide +kernel
theorem d_Lw_law_128 : decode code 128 = .ok (.aload_n 1, 1) := by decide +kernel
theorem d_Lw_law_129 : decode code 129 = .ok (.aload_n 0, 1) := by decide +kernel
theorem d_Lw_law_130 : decode code 130 = .ok (.iload_n 3, 1) := by decide +kernel
theorem d_Lw_law_131 : decode code 131 = .ok (.iconst 1, 1) := by decide +kernel
theorem d_Lw_law_132 : decode code 132 = .ok (.iadd, 1) := by decide +kernel
theorem d_Lw_law_133 : decode code 133 = .ok (.iaload, 1) := by decide +kernel
theorem d_Lw_law_134 : decode code 134 = .ok (.invokevirtual 13, 3) := by decide +kernel
theorem d_Lw_law_137 : decode code 137 = .ok (.aload_n 2, 1) := by decide +kernel
theorem d_Lw_law_138 : decode code 138 = .ok (.aload_n 0, 1) := by decide +kernel
theorem d_Lw_law_139 : decode code 139 = .ok (.iload_n 3, 1) := by decide +kernel
theorem d_Lw_law_140 : decode code 140 = .ok (.iconst 1, 1) := by decide +kernel
theorem d_Lw_law_141 : decode code 141 = .ok (.iadd, 1) := by decide +kernel
theorem d_Lw_law_142 : decode code 142 = .ok (.iaload, 1) := by decide +kernel
theorem d_Lw_law_143 : decode code 143 = .ok (.invokevirtual 17, 3) := by decide +kernel
theorem d_Lw_law_146 : decode code 146 = .ok (.if_icmp .eq 572, 3) := by decide +kernel
theorem d_Lw_law_149 : decode code 149 = .ok (.iconst 0, 1) := by decide +kernel
theorem d_Lw_law_150 : decode code 150 = .ok (.ireturn, 1) := by decide +kernel
theorem d_Lw_law_151 : decode code 151 = .ok (.aload_n 1, 1) := by decide +kernel
theorem d_Lw_law_152 : decode code 152 = .ok (.aload_n 0, 1) := by decide +kernel
theorem d_Lw_law_153 : decode code 153 = .ok (.iload_n 3, 1) := by decide +kernel
theorem d_Lw_law_154 : decode code 154 = .ok (.iconst 1, 1) := by decide +kernel
theorem d_Lw_law_155 : decode code 155 = .ok (.iadd, 1) := by decide +kernel
theorem d_Lw_law_156 : decode code 156 = .ok (.iaload, 1) := by decide +kernel
theorem d_Lw_law_157 : decode code 157 = .ok (.aload_n 0, 1) := by decide +kernel
theorem d_Lw_law_158 : decode code 158 = .ok (.iload_n 3, 1) := by decide +kernel
theorem d_Lw_law_159 : decode code 159 = .ok (.iconst 2, 1) := by decide +kernel
theorem d_Lw_law_160 : decode code 160 = .ok (.iadd, 1) := by decide +kernel
theorem d_Lw_law_161 : decode code 161 = .ok (.iaload, 1) := by decide +kernel
theorem d_Lw_law_162 : decode code 162 = .ok (.aload_n 0, 1) := by decide +kernel
theorem d_Lw_law_163 : decode code 163 = .ok (.iload_n 3, 1) := by decide +kernel
theorem d_Lw_law_164 : decode code 164 = .ok (.iconst 3, 1) := by decide +kernel
theorem d_Lw_law_165 : decode code 165 = .ok (.iadd, 1) := by decide +kernel
theorem d_Lw_law_166 : decode code 166 = .ok (.iaload, 1) := by decide +kernel
theorem d_Lw_law_167 : decode code 167 = .ok (.invokevirtual 18, 3) := by decide +kernel
theorem d_Lw_law_170 : decode code 170 = .ok (.aload_n 2, 1) := by decide +kernel
theorem d_Lw_law_171 : decode code 171 = .ok (.aload_n 0, 1) := by decide +kernel
theorem d_Lw_law_172 : decode code 172 = .ok (.iload_n 3, 1) := by decide +kernel
theorem d_Lw_law_173 : decode code 173 = .ok (.iconst 1, 1) := by decide +kernel
theorem d_Lw_law_174 : decode code 174 = .ok (.iadd, 1) := by decide +kernel
theorem d_Lw_law_175 : decode code 175 = .ok (.iaload, 1) := by decide +kernel
theorem d_Lw_law_176 : decode code 176 = .ok (.aload_n 0, 1) := by decide +kernel
theorem d_Lw_law_177 : decode code 177 = .ok (.iload_n 3, 1) := by decide +kernel
theorem d_Lw_law_178 : decode code 178 = .ok (.iconst 2, 1) := by decide +kernel
theorem d_Lw_law_179 : decode code 179 = .ok (.iadd, 1) := by decide +kernel
theorem d_Lw_law_180 : decode code 180 = .ok (.iaload, 1) := by decide +kernel
theorem d_Lw_law_181 : decode code 181 = .ok (.aload_n 0, 1) := by decide +kernel
theorem d_Lw_law_182 : decode code 182 = .ok (.iload_n 3, 1) := by decide +kernel
theorem d_Lw_law_183 : decode code 183 = .ok (.iconst 3, 1) := by decide +kernel
theorem d_Lw_law_184 : decode code 184 = .ok (.iadd, 1) := by decide +kernel
theorem d_Lw_law_185 : decode code 185 = .ok (.iaload, 1) := by decide +kernel
theorem d_Lw_law_186 : decode code 186 = .ok (.invokevirtual 22, 3) := by decide +kernel
theorem d_Lw_law_189 : decode code 189 = .ok (.if_icmp .eq 529, 3) := by decide +kernel
theorem d_Lw_law_192 : decode code 192 = .ok (.iconst 0, 1) := by decide +kernel
theorem d_Lw_law_193 : decode code 193 = .ok (.ireturn, 1) := by decide +kernel
theorem d_Lw_law_194 : decode code 194 = .ok (.aload_n 1, 1) := by decide +kernel
theorem d_Lw_law_195 : decode code 195 = .ok (.invokevirtual 23, 3) := by decide +kernel
theorem d_Lw_law_198 : decode code 198 = .ok (.aload_n 2, 1) := by decide +kernel
theorem d_Lw_law_199 : decode code 199 = .ok (.invokevirtual 27, 3) := by decide +kernel
theorem d_Lw_law_202 : decode code 202 = .ok (.if_icmp .eq 516, 3) := by decide +kernel
theorem d_Lw_law_205 : decode code 205 = .ok (.iconst 0, 1) := by decide +kernel
theorem d_Lw_law_206 : decode code 206 = .ok (.ireturn, 1) := by decide +kernel
theorem d_Lw_law_207 : decode code 207 = .ok (.aload_n 1, 1) := by decide +kernel
theorem d_Lw_law_208 : decode code 208 = .ok (.aload_n 0, 1) := by decide +kernel
theorem d_Lw_law_209 : decode code 209 = .ok (.iload_n 3, 1) := by decide +kernel
theorem d_Lw_law_210 : decode code 210 = .ok (.iconst 1, 1) := by decide +kernel
theorem d_Lw_law_211 : decode code 211 = .ok (.iadd, 1) := by decide +kernel
theorem d_Lw_law_212 : decode code 212 = .ok (.iaload, 1) := by decide +kernel
theorem d_Lw_law_213 : decode code 213 = .ok (.aload_n 0, 1) := by decide +kernel
theorem d_Lw_law_214 : decode code 214 = .ok (.iload_n 3, 1) := by decide +kernel
theorem d_Lw_law_215 : decode code 215 = .ok (.iconst 2, 1) := by decide +kernel
theorem d_Lw_law_216 : decode code 216 = .ok (.iadd, 1) := by decide +kernel
theorem d_Lw_law_217 : decode code 217 = .ok (.iaload, 1) := by decide +kernel
theorem d_Lw_law_218 : decode code 218 = .ok (.aload_n 0, 1) := by decide +kernel
theorem d_Lw_law_219 : decode code 219 = .ok (.iload_n 3, 1) := by decide +kernel
theorem d_Lw_law_220 : decode code 220 = .ok (.iconst 3, 1) := by decide +kernel
theorem d_Lw_law_221 : decode code 221 = .ok (.iadd, 1) := by decide +kernel
theorem d_Lw_law_222 : decode code 222 = .ok (.iaload, 1) := by decide +kernel
theorem d_Lw_law_223 : decode code 223 = .ok (.invokevirtual 28, 3) := by decide +kernel
theorem d_Lw_law_226 : decode code 226 = .ok (.aload_n 2, 1) := by decide +kernel
theorem d_Lw_law_227 : decode code 227 = .ok (.aload_n 0, 1) := by decide +kernel
theorem d_Lw_law_228 : decode code 228 = .ok (.iload_n 3, 1) := by decide +kernel
theorem d_Lw_law_229 : decode code 229 = .ok (.iconst 1, 1) := by decide +kernel
theorem d_Lw_law_230 : decode code 230 = .ok (.iadd, 1) := by decide +kernel
theorem d_Lw_law_231 : decode code 231 = .ok (.iaload, 1) := by decide +kernel
theorem d_Lw_law_232 : decode code 232 = .ok (.aload_n 0, 1) := by decide +kernel
theorem d_Lw_law_233 : decode code 233 = .ok (.iload_n 3, 1) := by decide +kernel
theorem d_Lw_law_234 : decode code 234 = .ok (.iconst 2, 1) := by decide +kernel
theorem d_Lw_law_235 : decode code 235 = .ok (.iadd, 1) := by decide +kernel
theorem d_Lw_law_236 : decode code 236 = .ok (.iaload, 1) := by decide +kernel
theorem d_Lw_law_237 : decode code 237 = .ok (.aload_n 0, 1) := by decide +kernel
theorem d_Lw_law_238 : decode code 238 = .ok (.iload_n 3, 1) := by decide +kernel
theorem d_Lw_law_239 : decode code 239 = .ok (.iconst 3, 1) := by decide +kernel
theorem d_Lw_law_240 : decode code 240 = .ok (.iadd, 1) := by decide +kernel
theorem d_Lw_law_241 : decode code 241 = .ok (.iaload, 1) := by decide +kernel
theorem d_Lw_law_242 : decode code 242 = .ok (.invokevirtual 31, 3) := by decide +kernel
theorem d_Lw_law_245 : decode code 245 = .ok (.if_icmp .eq 473, 3) := by decide +kernel
theorem d_Lw_law_248 : decode code 248 = .ok (.iconst 0, 1) := by decide +kernel
theorem d_Lw_law_249 : decode code 249 = .ok (.ireturn, 1) := by decide +kernel
theorem d_Lw_law_250 : decode code 250 = .ok (.aload_n 1, 1) := by decide +kernel
theorem d_Lw_law_251 : decode code 251 = .ok (.aload_n 0, 1) := by decide +kernel
theorem d_Lw_law_252 : decode code 252 = .ok (.iload_n 3, 1) := by decide +kernel
theorem d_Lw_law_253 : decode code 253 = .ok (.iconst 1, 1) := by decide +kernel
theorem d_Lw_law_254 : decode code 254 = .ok (.iadd, 1) := by decide +kernel
theorem d_Lw_law_255 : decode code 255 = .ok (.iaload, 1) := by decide +kernel
theorem d_Lw_law_256 : decode code 256 = .ok (.invokevirtual 32, 3) := by decide +kernel
theorem d_Lw_law_259 : decode code 259 = .ok (.aload_n 2, 1) := by decide +kernel
theorem d_Lw_law_260 : decode code 260 = .ok (.aload_n 0, 1) := by decide +kernel
theorem d_Lw_law_261 : decode code 261 = .ok (.iload_n 3, 1) := by decide +kernel
theorem d_Lw_law_262 : decode code 262 = .ok (.iconst 1, 1) := by decide +kernel
theorem d_Lw_law_263 : decode code 263 = .ok (.iadd, 1) := by decide +kernel
theorem d_Lw_law_264 : decode code 264 = .ok (.iaload, 1) := by decide +kernel
theorem d_Lw_law_265 : decode code 265 = .ok (.invokevirtual 35, 3) := by decide +kernel
theorem d_Lw_law_268 : decode code 268 = .ok (.if_icmp .eq 450, 3) := by decide +kernel
theorem d_Lw_law_271 : decode code 271 = .ok (.iconst 0, 1) := by decide +kernel
theorem d_Lw_law_272 : decode code 272 = .ok (.ireturn, 1) := by decide +kernel
theorem d_Lw_law_273 : decode code 273 = .ok (.aload_n 1, 1) := by decide +kernel
theorem d_Lw_law_274 : decode code 274 = .ok (.aload_n 0, 1) := by decide +kernel
theorem d_Lw_law_275 : decode code 275 = .ok (.iload_n 3, 1) := by decide +kernel
theorem d_Lw_law_276 : decode code 276 = .ok (.iconst 1, 1) := by decide +kernel
theorem d_Lw_law_277 : decode code 277 = .ok (.iadd, 1) := by decide +kernel
theorem d_Lw_law_278 : decode code 278 = .ok (.iaload, 1) := by decide +kernel
theorem d_Lw_law_279 : decode code 279 = .ok (.aload_n 0, 1) := by decide +kernel
theorem d_Lw_law_280 : decode code 280 = .ok (.iload_n 3, 1) := by decide +kernel
theorem d_Lw_law_281 : decode code 281 = .ok (.iconst 2, 1) := by decide +kernel
theorem d_Lw_law_282 : decode code 282 = .ok (.iadd, 1) := by decide +kernel
theorem d_Lw_law_283 : decode code 283 = .ok (.iaload, 1) := by decide +kernel
theorem d_Lw_law_284 : decode code 284 = .ok (.aload_n 0, 1) := by decide +kernel
theorem d_Lw_law_285 : decode code 285 = .ok (.iload_n 3, 1) := by decide +kernel
theorem d_Lw_law_286 : decode code 286 = .ok (.iconst 3, 1) := by decide +kernel
theorem d_Lw_law_287 : decode code 287 = .ok (.iadd, 1) := by decide +kernel
theorem d_Lw_law_288 : decode code 288 = .ok (.iaload, 1) := by decide +kernel
theorem d_Lw_law_289 : decode code 289 = .ok (.invokevirtual 36, 3) := by decide +kernel
theorem d_Lw_law_292 : decode code 292 = .ok (.aload_n 2, 1) := by decide +kernel
theorem d_Lw_law_293 : decode code 293 = .ok (.aload_n 0, 1) := by decide +kernel
theorem d_Lw_law_294 : decode code 294 = .ok (.iload_n 3, 1) := by decide +kernel
theorem d_Lw_law_295 : decode code 295 = .ok (.iconst 1, 1) := by decide +kernel
theorem d_Lw_law_296 : decode code 296 = .ok (.iadd, 1) := by decide +kernel
theorem d_Lw_law_297 : decode code 297 = .ok (.iaload, 1) := by decide +kernel
theorem d_Lw_law_298 : decode code 298 = .ok (.aload_n 0, 1) := by decide +kernel
theorem d_Lw_law_299 : decode code 299 = .ok (.iload_n 3, 1) := by decide +kernel
theorem d_Lw_law_300 : decode code 300 = .ok (.iconst 2, 1) := by decide +kernel
theorem d_Lw_law_301 : decode code 301 = .ok (.iadd, 1) := by decide +kernel
theorem d_Lw_law_302 : decode code 302 = .ok (.iaload, 1) := by decide +kernel
theorem d_Lw_law_303 : decode code 303 = .ok (.aload_n 0, 1) := by decide +kernel
theorem d_Lw_law_304 : decode code 304 = .ok (.iload_n 3, 1) := by decide +kernel
theorem d_Lw_law_305 : decode code 305 = .ok (.iconst 3, 1) := by decide +kernel
theorem d_Lw_law_306 : decode code 306 = .ok (.iadd, 1) := by decide +kernel
theorem d_Lw_law_307 : decode code 307 = .ok (.iaload, 1) := by decide +kernel
theorem d_Lw_law_308 : decode code 308 = .ok (.invokevirtual 39, 3) := by decide +kernel
theorem d_Lw_law_311 : decode code 311 = .ok (.if_icmp .eq 407, 3) := by decide +kernel
theorem d_Lw_law_314 : decode code 314 = .ok (.iconst 0, 1) := by decide +kernel
theorem d_Lw_law_315 : decode code 315 = .ok (.ireturn, 1) := by decide +kernel
theorem d_Lw_law_316 : decode code 316 = .ok (.aload_n 1, 1) := by decide +kernel
theorem d_Lw_law_317 : decode code 317 = .ok (.aload_n 0, 1) := by decide +kernel
theorem d_Lw_law_318 : decode code 318 = .ok (.iload_n 3, 1) := by decide +kernel
theorem d_Lw_law_319 : decode code 319 = .ok (.iconst 1, 1) := by decide +kernel
theorem d_Lw_law_320 : decode code 320 = .ok (.iadd, 1) := by decide +kernel
theorem d_Lw_law_321 : decode code 321 = .ok (.iaload, 1) := by decide +kernel
theorem d_Lw_law_322 : decode code 322 = .ok (.aload_n 0, 1) := by decide +kernel
theorem d_Lw_law_323 : decode code 323 = .ok (.iload_n 3, 1) := by decide +kernel
theorem d_Lw_law_324 : decode code 324 = .ok (.iconst 2, 1) := by decide +kernel
theorem d_Lw_law_325 : decode code 325 = .ok (.iadd, 1) := by decide +kernel
theorem d_Lw_law_326 : decode code 326 = .ok (.iaload, 1) := by decide +kernel
theorem d_Lw_law_327 : decode code 327 = .ok (.invokevirtual 40, 3) := by decide +kernel
theorem d_Lw_law_330 : decode code 330 = .ok (.aload_n 2, 1) := by decide +kernel
theorem d_Lw_law_331 : decode code 331 = .ok (.aload_n 0, 1) := by decide +kernel
theorem d_Lw_law_332 : decode code 332 = .ok (.iload_n 3, 1) := by decide +kernel
theorem d_Lw_law_333 : decode code 333 = .ok (.iconst 1, 1) := by decide +kernel
theorem d_Lw_law_334 : decode code 334 = .ok (.iadd, 1) := by decide +kernel
theorem d_Lw_law_335 : decode code 335 = .ok (.iaload, 1) := by decide +kernel
theorem d_Lw_law_336 : decode code 336 = .ok (.aload_n 0, 1) := by decide +kernel
theorem d_Lw_law_337 : decode code 337 = .ok (.iload_n 3, 1) := by decide +kernel
theorem d_Lw_law_338 : decode code 338 = .ok (.iconst 2, 1) := by decide +kernel
theorem d_Lw_law_339 : decode code 339 = .ok (.iadd, 1) := by decide +kernel
theorem d_Lw_law_340 : decode code 340 = .ok (.iaload, 1) := by decide +kernel
theorem d_Lw_law_341 : decode code 341 = .ok (.invokevirtual 44, 3) := by decide +kernel
theorem d_Lw_law_344 : decode code 344 = .ok (.if_icmp .eq 374, 3) := by decide +kernel
theorem d_Lw_law_347 : decode code 347 = .ok (.iconst 0, 1) := by decide +kernel
theorem d_Lw_law_348 : decode code 348 = .ok (.ireturn, 1) := by decide +kernel
theorem d_Lw_law_349 : decode code 349 = .ok (.aload_n 1, 1) := by decide +kernel
theorem d_Lw_law_350 : decode code 350 = .ok (.aload_n 0, 1) := by decide +kernel
theorem d_Lw_law_351 : decode code 351 = .ok (.iload_n 3, 1) := by decide +kernel
theorem d_Lw_law_352 : decode code 352 = .ok (.iconst 1, 1) := by decide +kernel
theorem d_Lw_law_353 : decode code 353 = .ok (.iadd, 1) := by decide +kernel
theorem d_Lw_law_354 : decode code 354 = .ok (.iaload, 1) := by decide +kernel
theorem d_Lw_law_355 : decode code 355 = .ok (.invokevirtual 45, 3) := by decide +kernel
theorem d_Lw_law_358 : decode code 358 = .ok (.aload_n 2, 1) := by decide +kernel
theorem d_Lw_law_359 : decode code 359 = .ok (.aload_n 0, 1) := by decide +kernel
theorem d_Lw_law_360 : decode code 360 = .ok (.iload_n 3, 1) := by decide +kernel
theorem d_Lw_law_361 : decode code 361 = .ok (.iconst 1, 1) := by decide +kernel
theorem d_Lw_law_362 : decode code 362 = .ok (.iadd, 1) := by decide +kernel
theorem d_Lw_law_363 : decode code 363 = .ok (.iaload, 1) := by decide +kernel
theorem d_Lw_law_364 : decode code 364 = .ok (.invokevirtual 48, 3) := by decide +kernel
theorem d_Lw_law_367 : decode code 367 = .ok (.if_icmp .eq 351, 3) := by decide +kernel
theorem d_Lw_law_370 : decode code 370 = .ok (.iconst 0, 1) := by decide +kernel
theorem d_Lw_law_371 : decode code 371 = .ok (.ireturn, 1) := by decide +kernel
theorem d_Lw_law_372 : decode code 372 = .ok (.aload_n 1, 1) := by decide +kernel
theorem d_Lw_law_373 : decode code 373 = .ok (.aload_n 0, 1) := by decide +kernel
theorem d_Lw_law_374 : decode code 374 = .ok (.iload_n 3, 1) := by decide +kernel
theorem d_Lw_law_375 : decode code 375 = .ok (.iconst 1, 1) := by decide +kernel
theorem d_Lw_law_376 : decode code 376 = .ok (.iadd, 1) := by decide +kernel
theorem d_Lw_law_377 : decode code 377 = .ok (.iaload, 1) := by decide +kernel
theorem d_Lw_law_378 : decode code 378 = .ok (.aload_n 0, 1) := by decide +kernel
theorem d_Lw_law_379 : decode code 379 = .ok (.iload_n 3, 1) := by decide +kernel
theorem d_Lw_law_380 : decode code 380 = .ok (.iconst 2, 1) := by decide +kernel
theorem d_Lw_law_381 : decode code 381 = .ok (.iadd, 1) := by decide +kernel
theorem d_Lw_law_382 : decode code 382 = .ok (.iaload, 1) := by decide +kernel
theorem d_Lw_law_383 : decode code 383 = .ok (.aload_n 0, 1) := by decide +kernel
theorem d_Lw_law_384 : decode code 384 = .ok (.iload_n 3, 1) := by decide +kernel
theorem d_Lw_law_385 : decode code 385 = .ok (.iconst 3, 1) := by decide +kernel
theorem d_Lw_law_386 : decode code 386 = .ok (.iadd, 1) := by decide +kernel
theorem d_Lw_law_387 : decode code 387 = .ok (.iaload, 1) := by decide +kernel
theorem d_Lw_law_388 : decode code 388 = .ok (.invokevirtual 49, 3) := by decide +kernel
theorem d_Lw_law_391 : decode code 391 = .ok (.aload_n 2, 1) := by decide +kernel
theorem d_Lw_law_392 : decode code 392 = .ok (.aload_n 0, 1) := by decide +kernel
theorem d_Lw_law_393 : decode code 393 = .ok (.iload_n 3, 1) := by decide +kernel
theorem d_Lw_law_394 : decode code 394 = .ok (.iconst 1, 1) := by decide +kernel
theorem d_Lw_law_395 : decode code 395 = .ok (.iadd, 1) := by decide +kernel
theorem d_Lw_law_396 : decode code 396 = .ok (.iaload, 1) := by decide +kernel
theorem d_Lw_law_397 : decode code 397 = .ok (.aload_n 0, 1) := by decide +kernel
theorem d_Lw_law_398 : decode code 398 = .ok (.iload_n 3, 1) := by decide +kernel
theorem d_Lw_law_399 : decode code 399 = .ok (.iconst 2, 1) := by decide +kernel
theorem d_Lw_law_400 : decode code 400 = .ok (.iadd, 1) := by decide +kernel
theorem d_Lw_law_401 : decode code 401 = .ok (.iaload, 1) := by decide +kernel
theorem d_Lw_law_402 : decode code 402 = .ok (.aload_n 0, 1) := by decide +kernel
theorem d_Lw_law_403 : decode code 403 = .ok (.iload_n 3, 1) := by decide +kernel
theorem d_Lw_law_404 : decode code 404 = .ok (.iconst 3, 1) := by decide +kernel
theorem d_Lw_law_405 : decode code 405 = .ok (.iadd, 1) := by decide +kernel
theorem d_Lw_law_406 : decode code 406 = .ok (.iaload, 1) := by decide +kernel
theorem d_Lw_law_407 : decode code 407 = .ok (.invokevirtual 52, 3) := by decide +kernel
theorem d_Lw_law_410 : decode code 410 = .ok (.if_icmp .eq 308, 3) := by decide +kernel
theorem d_Lw_law_413 : decode code 413 = .ok (.iconst 0, 1) := by decide +kernel
theorem d_Lw_law_414 : decode code 414 = .ok (.ireturn, 1) := by decide +kernel
theorem d_Lw_law_415 : decode code 415 = .ok (.aload_n 1, 1) := by decide +kernel
theorem d_Lw_law_416 : decode code 416 = .ok (.aload_n 0, 1) := by decide +kernel
theorem d_Lw_law_417 : decode code 417 = .ok (.iload_n 3, 1) := by decide +kernel
theorem d_Lw_law_418 : decode code 418 = .ok (.iconst 1, 1) := by decide +kernel
theorem d_Lw_law_419 : decode code 419 = .ok (.iadd, 1) := by decide +kernel
theorem d_Lw_law_420 : decode code 420 = .ok (.iaload, 1) := by decide +kernel
theorem d_Lw_law_421 : decode code 421 = .ok (.invokevirtual 53, 3) := by decide +kernel
theorem d_Lw_law_424 : decode code 424 = .ok (.aload_n 2, 1) := by decide +kernel
theorem d_Lw_law_425 : decode code 425 = .ok (.aload_n 0, 1) := by decide +kernel
theorem d_Lw_law_426 : decode code 426 = .ok (.iload_n 3, 1) := by decide +kernel
theorem d_Lw_law_427 : decode code 427 = .ok (.iconst 1, 1) := by decide +kernel
theorem d_Lw_law_428 : decode code 428 = .ok (.iadd, 1) := by decide +kernel
theorem d_Lw_law_429 : decode code 429 = .ok (.iaload, 1) := by decide +kernel
theorem d_Lw_law_430 : decode code 430 = .ok (.invokevirtual 56, 3) := by decide +kernel
theorem d_Lw_law_433 : decode code 433 = .ok (.if_icmp .eq 285, 3) := by decide +kernel
theorem d_Lw_law_436 : decode code 436 = .ok (.iconst 0, 1) := by decide +kernel
theorem d_Lw_law_437 : decode code 437 = .ok (.ireturn, 1) := by decide +kernel
theorem d_Lw_law_438 : decode code 438 = .ok (.aload_n 1, 1) := by decide +kernel
theorem d_Lw_law_439 : decode code 439 = .ok (.aload_n 0, 1) := by decide +kernel
theorem d_Lw_law_440 : decode code 440 = .ok (.iload_n 3, 1) := by decide +kernel
theorem d_Lw_law_441 : decode code 441 = .ok (.iconst 1, 1) := by decide +kernel
theorem d_Lw_law_442 : decode code 442 = .ok (.iadd, 1) := by decide +kernel
theorem d_Lw_law_443 : decode code 443 = .ok (.iaload, 1) := by decide +kernel
theorem d_Lw_law_444 : decode code 444 = .ok (.aload_n 0, 1) := by decide +kernel
theorem d_Lw_law_445 : decode code 445 = .ok (.iload_n 3, 1) := by decide +kernel
theorem d_Lw_law_446 : decode code 446 = .ok (.iconst 2, 1) := by decide +kernel
theorem d_Lw_law_447 : decode code 447 = .ok (.iadd, 1) := by decide +kernel
theorem d_Lw_law_448 : decode code 448 = .ok (.iaload, 1) := by decide +kernel
theorem d_Lw_law_449 : decode code 449 = .ok (.aload_n 0, 1) := by decide +kernel
theorem d_Lw_law_450 : decode code 450 = .ok (.iload_n 3, 1) := by decide +kernel
theorem d_Lw_law_451 : decode code 451 = .ok (.iconst 3, 1) := by decide +kernel
theorem d_Lw_law_452 : decode code 452 = .ok (.iadd, 1) := by decide +kernel
theorem d_Lw_law_453 : decode code 453 = .ok (.iaload, 1) := by decide +kernel
theorem d_Lw_law_454 : decode code 454 = .ok (.invokevirtual 57, 3) := by decide +kernel
theorem d_Lw_law_457 : decode code 457 = .ok (.aload_n 2, 1) := by decide +kernel
theorem d_Lw_law_458 : decode code 458 = .ok (.aload_n 0, 1) := by decide +kernel
theorem d_Lw_law_459 : decode code 459 = .ok (.iload_n 3, 1) := by decide +kernel
theorem d_Lw_law_460 : decode code 460 = .ok (.iconst 1, 1) := by decide +kernel
theorem d_Lw_law_461 : decode code 461 = .ok (.iadd, 1) := by decide +kernel
theorem d_Lw_law_462 : decode code 462 = .ok (.iaload, 1) := by decide +kernel
theorem d_Lw_law_463 : decode code 463 = .ok (.aload_n 0, 1) := by decide +kernel
theorem d_Lw_law_464 : decode code 464 = .ok (.iload_n 3, 1) := by decide +kernel
theorem d_Lw_law_465 : decode code 465 = .ok (.iconst 2, 1) := by decide +kernel
theorem d_Lw_law_466 : decode code 466 = .ok (.iadd, 1) := by decide +kernel
theorem d_Lw_law_467 : decode code 467 = .ok (.iaload, 1) := by decide +kernel
theorem d_Lw_law_468 : decode code 468 = .ok (.aload_n 0, 1) := by decide +kernel
theorem d_Lw_law_469 : decode code 469 = .ok (.iload_n 3, 1) := by decide +kernel
theorem d_Lw_law_470 : decode code 470 = .ok (.iconst 3, 1) := by decide +kernel
theorem d_Lw_law_471 : decode code 471 = .ok (.iadd, 1) := by decide +kernel
theorem d_Lw_law_472 : decode code 472 = .ok (.iaload, 1) := by decide +kernel
theorem d_Lw_law_473 : decode code 473 = .ok (.invokevirtual 60, 3) := by decide +kernel
theorem d_Lw_law_476 : decode code 476 = .ok (.if_icmp .eq 242, 3) := by decide +kernel
theorem d_Lw_law_479 : decode code 479 = .ok (.iconst 0, 1) := by decide +kernel
theorem d_Lw_law_480 : decode code 480 = .ok (.ireturn, 1) := by decide +kernel
theorem d_Lw_law_481 : decode code 481 = .ok (.aload_n 1, 1) := by decide +kernel
theorem d_Lw_law_482 : decode code 482 = .ok (.aload_n 0, 1) := by decide +kernel
theorem d_Lw_law_483 : decode code 483 = .ok (.iload_n 3, 1) := by decide +kernel
theorem d_Lw_law_484 : decode code 484 = .ok (.iconst 1, 1) := by decide +kernel
theorem d_Lw_law_485 : decode code 485 = .ok (.iadd, 1) := by decide +kernel
theorem d_Lw_law_486 : decode code 486 = .ok (.iaload, 1) := by decide +kernel
theorem d_Lw_law_487 : decode code 487 = .ok (.invokevirtual 61, 3) := by decide +kernel
theorem d_Lw_law_490 : decode code 490 = .ok (.aload_n 2, 1) := by decide +kernel
theorem d_Lw_law_491 : decode code 491 = .ok (.aload_n 0, 1) := by decide +kernel
theorem d_Lw_law_492 : decode code 492 = .ok (.iload_n 3, 1) := by decide +kernel
theorem d_Lw_law_493 : decode code 493 = .ok (.iconst 1, 1) := by decide +kernel
theorem d_Lw_law_494 : decode code 494 = .ok (.iadd, 1) := by decide +kernel
theorem d_Lw_law_495 : decode code 495 = .ok (.iaload, 1) := by decide +kernel
theorem d_Lw_law_496 : decode code 496 = .ok (.invokevirtual 64, 3) := by decide +kernel
theorem d_Lw_law_499 : decode code 499 = .ok (.if_icmp .eq 219, 3) := by decide +kernel
theorem d_Lw_law_502 : decode code 502 = .ok (.iconst 0, 1) := by decide +kernel
theorem d_Lw_law_503 : decode code 503 = .ok (.ireturn, 1) := by decide +kernel
theorem d_Lw_law_504 : decode code 504 = .ok (.aload_n 1, 1) := by decide +kernel
theorem d_Lw_law_505 : decode code 505 = .ok (.aload_n 0, 1) := by decide +kernel
theorem d_Lw_law_506 : decode code 506 = .ok (.iload_n 3, 1) := by decide +kernel
theorem d_Lw_law_507 : decode code 507 = .ok (.iconst 1, 1) := by decide +kernel
theorem d_Lw_law_508 : decode code 508 = .ok (.iadd, 1) := by decide +kernel
theorem d_Lw_law_509 : decode code 509 = .ok (.iaload, 1) := by decide +kernel
theorem d_Lw_law_510 : decode code 510 = .ok (.aload_n 0, 1) := by decide +kernel
theorem d_Lw_law_511 : decode code 511 = .ok (.iload_n 3, 1) := by decide +kernel
theorem d_Lw_law_512 : decode code 512 = .ok (.iconst 2, 1) := by decide +kernel
theorem d_Lw_law_513 : decode code 513 = .ok (.iadd, 1) := by decide +kernel
theorem d_Lw_law_514 : decode code 514 = .ok (.iaload, 1) := by decide +kernel
theorem d_Lw_law_515 : decode code 515 = .ok (.aload_n 0, 1) := by decide +kernel
theorem d_Lw_law_516 : decode code 516 = .ok (.iload_n 3, 1) := by decide +kernel
theorem d_Lw_law_517 : decode code 517 = .ok (.iconst 3, 1) := by decide +kernel
theorem d_Lw_law_518 : decode code 518 = .ok (.iadd, 1) := by decide +kernel
theorem d_Lw_law_519 : decode code 519 = .ok (.iaload, 1) := by decide +kernel
theorem d_Lw_law_520 : decode code 520 = .ok (.invokevirtual 65, 3) := by decide +kernel
theorem d_Lw_law_523 : decode code 523 = .ok (.aload_n 2, 1) := by decide +kernel
theorem d_Lw_law_524 : decode code 524 = .ok (.aload_n 0, 1) := by decide +kernel
theorem d_Lw_law_525 : decode code 525 = .ok (.iload_n 3, 1) := by decide +kernel
theorem d_Lw_law_526 : decode code 526 = .ok (.iconst 1, 1) := by decide +kernel
theorem d_Lw_law_527 : decode code 527 = .ok (.iadd, 1) := by decide +kernel
theorem d_Lw_law_528 : decode code 528 = .ok (.iaload, 1) := by decide +kernel
theorem d_Lw_law_529 : decode code 529 = .ok (.aload_n 0, 1) := by decide +kernel
theorem d_Lw_law_530 : decode code 530 = .ok (.iload_n 3, 1) := by decide +kernel
theorem d_Lw_law_531 : decode code 531 = .ok (.iconst 2, 1) := by decide +kernel
theorem d_Lw_law_532 : decode code 532 = .ok (.iadd, 1) := by decide +kernel
theorem d_Lw_law_533 : decode code 533 = .ok (.iaload, 1) := by decide +kernel
theorem d_Lw_law_534 : decode code 534 = .ok (.aload_n 0, 1) := by decide +kernel
theorem d_Lw_law_535 : decode code 535 = .ok (.iload_n 3, 1) := by decide +kernel
theorem d_Lw_law_536 : decode code 536 = .ok (.iconst 3, 1) := by decide +kernel
theorem d_Lw_law_537 : decode code 537 = .ok (.iadd, 1) := by decide +kernel
theorem d_Lw_law_538 : decode code 538 = .ok (.iaload, 1) := by decide +kernel
theorem d_Lw_law_539 : decode code 539 = .ok (.invokevirtual 68, 3) := by decide +kernel
theorem d_Lw_law_542 : decode code 542 = .ok (.if_icmp .eq 176, 3) := by decide +kernel
theorem d_Lw_law_545 : decode code 545 = .ok (.iconst 0, 1) := by decide +kernel
theorem d_Lw_law_546 : decode code 546 = .ok (.ireturn, 1) := by decide +kernel
theorem d_Lw_law_547 : decode code 547 = .ok (.aload_n 1, 1) := by decide +kernel
theorem d_Lw_law_548 : decode code 548 = .ok (.invokevirtual 69, 3) := by decide +kernel
theorem d_Lw_law_551 : decode code 551 = .ok (.aload_n 2, 1) := by decide +kernel
theorem d_Lw_law_552 : decode code 552 = .ok (.invokevirtual 72, 3) := by decide +kernel
theorem d_Lw_law_555 : decode code 555 = .ok (.if_icmp .eq 163, 3) := by decide +kernel
theorem d_Lw_law_558 : decode code 558 = .ok (.iconst 0, 1) := by decide +kernel
theorem d_Lw_law_559 : decode code 559 = .ok (.ireturn, 1) := by decide +kernel
theorem d_Lw_law_560 : decode code 560 = .ok (.aload_n 1, 1) := by decide +kernel
theorem d_Lw_law_561 : decode code 561 = .ok (.aload_n 0, 1) := by decide +kernel
theorem d_Lw_law_562 : decode code 562 = .ok (.iload_n 3, 1) := by decide +kernel
theorem d_Lw_law_563 : decode code 563 = .ok (.iconst 1, 1) := by decide +kernel
theorem d_Lw_law_564 : decode code 564 = .ok (.iadd, 1) := by decide +kernel
theorem d_Lw_law_565 : decode code 565 = .ok (.iaload, 1) := by decide +kernel
theorem d_Lw_law_566 : decode code 566 = .ok (.aload_n 0, 1) := by decide +kernel
theorem d_Lw_law_567 : decode code 567 = .ok (.iload_n 3, 1) := by decide +kernel
theorem d_Lw_law_568 : decode code 568 = .ok (.iconst 2, 1) := by decide +kernel
theorem d_Lw_law_569 : decode code 569 = .ok (.iadd, 1) := by decide +kernel
theorem d_Lw_law_570 : decode code 570 = .ok (.iaload, 1) := by decide +kernel
theorem d_Lw_law_571 : decode code 571 = .ok (.invokevirtual 73, 3) := by decide +kernel
theorem d_Lw_law_574 : decode code 574 = .ok (.aload_n 2, 1) := by decide +kernel
theorem d_Lw_law_575 : decode code 575 = .ok (.aload_n 0, 1) := by decide +kernel
theorem d_Lw_law_576 : decode code 576 = .ok (.iload_n 3, 1) := by decide +kernel
theorem d_Lw_law_577 : decode code 577 = .ok (.iconst 1, 1) := by decide +kernel
theorem d_Lw_law_578 : decode code 578 = .ok (.iadd, 1) := by decide +kernel
theorem d_Lw_law_579 : decode code 579 = .ok (.iaload, 1) := by decide +kernel
theorem d_Lw_law_580 : decode code 580 = .ok (.aload_n 0, 1) := by decide +kernel
theorem d_Lw_law_581 : decode code 581 = .ok (.iload_n 3, 1) := by decide +kernel
theorem d_Lw_law_582 : decode code 582 = .ok (.iconst 2, 1) := by decide +kernel
theorem d_Lw_law_583 : decode code 583 = .ok (.iadd, 1) := by decide +kernel
theorem d_Lw_law_584 : decode code 584 = .ok (.iaload, 1) := by decide +kernel
theorem d_Lw_law_585 : decode code 585 = .ok (.invokevirtual 76, 3) := by decide +kernel
theorem d_Lw_law_588 : decode code 588 = .ok (.if_icmp .eq 130, 3) := by decide +kernel
theorem d_Lw_law_591 : decode code 591 = .ok (.iconst 0, 1) := by decide +kernel
theorem d_Lw_law_592 : decode code 592 = .ok (.ireturn, 1) := by decide +kernel
theorem d_Lw_law_593 : decode code 593 = .ok (.aload_n 1, 1) := by decide +kernel
theorem d_Lw_law_594 : decode code 594 = .ok (.invokevirtual 77, 3) := by decide +kernel
theorem d_Lw_law_597 : decode code 597 = .ok (.aload_n 2, 1) := by decide +kernel
theorem d_Lw_law_598 : decode code 598 = .ok (.invokevirtual 80, 3) := by decide +kernel
theorem d_Lw_law_601 : decode code 601 = .ok (.if_icmp .eq 117, 3) := by decide +kernel
theorem d_Lw_law_604 : decode code 604 = .ok (.iconst 0, 1) := by decide +kernel
theorem d_Lw_law_605 : decode code 605 = .ok (.ireturn, 1) := by decide +kernel
theorem d_Lw_law_606 : decode code 606 = .ok (.aload_n 1, 1) := by decide +kernel
theorem d_Lw_law_607 : decode code 607 = .ok (.aload_n 0, 1) := by decide +kernel
theorem d_Lw_law_608 : decode code 608 = .ok (.iload_n 3, 1) := by decide +kernel
theorem d_Lw_law_609 : decode code 609 = .ok (.iconst 1, 1) := by decide +kernel
theorem d_Lw_law_610 : decode code 610 = .ok (.iadd, 1) := by decide +kernel
theorem d_Lw_law_611 : decode code 611 = .ok (.iaload, 1) := by decide +kernel
theorem d_Lw_law_612 : decode code 612 = .ok (.aload_n 0, 1) := by decide +kernel
theorem d_Lw_law_613 : decode code 613 = .ok (.iload_n 3, 1) := by decide +kernel
theorem d_Lw_law_614 : decode code 614 = .ok (.iconst 2, 1) := by decide +kernel
theorem d_Lw_law_615 : decode code 615 = .ok (.iadd, 1) := by decide +kernel
theorem d_Lw_law_616 : decode code 616 = .ok (.iaload, 1) := by decide +kernel
theorem d_Lw_law_617 : decode code 617 = .ok (.aload_n 0, 1) := by decide +kernel
theorem d_Lw_law_618 : decode code 618 = .ok (.iload_n 3, 1) := by decide +kernel
theorem d_Lw_law_619 : decode code 619 = .ok (.iconst 3, 1) := by decide +kernel
theorem d_Lw_law_620 : decode code 620 = .ok (.iadd, 1) := by decide +kernel
theorem d_Lw_law_621 : decode code 621 = .ok (.iaload, 1) := by decide +kernel
theorem d_Lw_law_622 : decode code 622 = .ok (.aload_n 0, 1) := by decide +kernel
theorem d_Lw_law_623 : decode code 623 = .ok (.iload_n 3, 1) := by decide +kernel
theorem d_Lw_law_624 : decode code 624 = .ok (.iconst 4, 1) := by decide +kernel
theorem d_Lw_law_625 : decode code 625 = .ok (.iadd, 1) := by decide +kernel
theorem d_Lw_law_626 : decode code 626 = .ok (.iaload, 1) := by decide +kernel
theorem d_Lw_law_627 : decode code 627 = .ok (.invokevirtual 81, 3) := by decide +kernel
theorem d_Lw_law_630 : decode code 630 = .ok (.aload_n 2, 1) := by decide +kernel
theorem d_Lw_law_631 : decode code 631 = .ok (.aload_n 0, 1) := by decide +kernel
theorem d_Lw_law_632 : decode code 632 = .ok (.iload_n 3, 1) := by decide +kernel
theorem d_Lw_law_633 : decode code 633 = .ok (.iconst 1, 1) := by decide +kernel
theorem d_Lw_law_634 : decode code 634 = .ok (.iadd, 1) := by decide +kernel
theorem d_Lw_law_635 : decode code 635 = .ok (.iaload, 1) := by decide +kernel
theorem d_Lw_law_636 : decode code 636 = .ok (.aload_n 0, 1) := by decide +kernel
theorem d_Lw_law_637 : decode code 637 = .ok (.iload_n 3, 1) := by decide +kernel
theorem d_Lw_law_638 : decode code 638 = .ok (.iconst 2, 1) := by decide +kernel
theorem d_Lw_law_639 : decode code 639 = .ok (.iadd, 1) := by decide +kernel
theorem d_Lw_law_640 : decode code 640 = .ok (.iaload, 1) := by decide +kernel
theorem d_Lw_law_641 : decode code 641 = .ok (.aload_n 0, 1) := by decide +kernel
theorem d_Lw_law_642 : decode code 642 = .ok (.iload_n 3, 1) := by decide +kernel
theorem d_Lw_law_643 : decode code 643 = .ok (.iconst 3, 1) := by decide +kernel
theorem d_Lw_law_644 : decode code 644 = .ok (.iadd, 1) := by decide +kernel
theorem d_Lw_law_645 : decode code 645 = .ok (.iaload, 1) := by decide +kernel
theorem d_Lw_law_646 : decode code 646 = .ok (.aload_n 0, 1) := by decide +kernel
theorem d_Lw_law_647 : decode code 647 = .ok (.iload_n 3, 1) := by decide +kernel
theorem d_Lw_law_648 : decode code 648 = .ok (.iconst 4, 1) := by decide +kernel
theorem d_Lw_law_649 : decode code 649 = .ok (.iadd, 1) := by decide +kernel
theorem d_Lw_law_650 : decode code 650 = .ok (.iaload, 1) := by decide +kernel
theorem d_Lw_law_651 : decode code 651 = .ok (.invokevirtual 85, 3) := by decide +kernel
theorem d_Lw_law_654 : decode code 654 = .ok (.if_icmp .eq 64, 3) := by decide +kernel
theorem d_Lw_law_657 : decode code 657 = .ok (.iconst 0, 1) := by decide +kernel
theorem d_Lw_law_658 : decode code 658 = .ok (.ireturn, 1) := by decide +kernel
theorem d_Lw_law_659 : decode code 659 = .ok (.aload_n 1, 1) := by decide +kernel
theorem d_Lw_law_660 : decode code 660 = .ok (.aload_n 0, 1) := by decide +kernel
theorem d_Lw_law_661 : decode code 661 = .ok (.iload_n 3, 1) := by decide +kernel
theorem d_Lw_law_662 : decode code 662 = .ok (.iconst 1, 1) := by decide +kernel
theorem d_Lw_law_663 : decode code 663 = .ok (.iadd, 1) := by decide +kernel
theorem d_Lw_law_664 : decode code 664 = .ok (.iaload, 1) := by decide +kernel
theorem d_Lw_law_665 : decode code 665 = .ok (.invokevirtual 86, 3) := by decide +kernel
theorem d_Lw_law_668 : decode code 668 = .ok (.aload_n 2, 1) := by decide +kernel
theorem d_Lw_law_669 : decode code 669 = .ok (.aload_n 0, 1) := by decide +kernel
theorem d_Lw_law_670 : decode code 670 = .ok (.iload_n 3, 1) := by decide +kernel
theorem d_Lw_law_671 : decode code 671 = .ok (.iconst 1, 1) := by decide +kernel
theorem d_Lw_law_672 : decode code 672 = .ok (.iadd, 1) := by decide +kernel
theorem d_Lw_law_673 : decode code 673 = .ok (.iaload, 1) := by decide +kernel
theorem d_Lw_law_674 : decode code 674 = .ok (.invokevirtual 89, 3) := by decide +kernel
theorem d_Lw_law_677 : decode code 677 = .ok (.if_icmp .eq 41, 3) := by decide +kernel
theorem d_Lw_law_680 : decode code 680 = .ok (.iconst 0, 1) := by decide +kernel
theorem d_Lw_law_681 : decode code 681 = .ok (.ireturn, 1) := by decide +kernel
theorem d_Lw_law_682 : decode code 682 = .ok (.aload_n 1, 1) := by decide +kernel
theorem d_Lw_law_683 : decode code 683 = .ok (.invokevirtual 90, 3) := by decide +kernel
theorem d_Lw_law_686 : decode code 686 = .ok (.aload_n 2, 1) := by decide +kernel
theorem d_Lw_law_687 : decode code 687 = .ok (.invokevirtual 93, 3) := by decide +kernel
theorem d_Lw_law_690 : decode code 690 = .ok (.if_icmp .eq 28, 3) := by decide +kernel
theorem d_Lw_law_693 : decode code 693 = .ok (.iconst 0, 1) := by decide +kernel
theorem d_Lw_law_694 : decode code 694 = .ok (.ireturn, 1) := by decide +kernel
theorem d_Lw_law_695 : decode code 695 = .ok (.aload_n 1, 1) := by decide +kernel
theorem d_Lw_law_696 : decode code 696 = .ok (.aload_n 0, 1) := by decide +kernel
theorem d_Lw_law_697 : decode code 697 = .ok (.iload_n 3, 1) := by decide +kernel
theorem d_Lw_law_698 : decode code 698 = .ok (.iconst 1, 1) := by decide +kernel
theorem d_Lw_law_699 : decode code 699 = .ok (.iadd, 1) := by decide +kernel
theorem d_Lw_law_700 : decode code 700 = .ok (.iaload, 1) := by decide +kernel
theorem d_Lw_law_701 : decode code 701 = .ok (.invokevirtual 94, 3) := by decide +kernel
theorem d_Lw_law_704 : decode code 704 = .ok (.aload_n 2, 1) := by decide +kernel
theorem d_Lw_law_705 : decode code 705 = .ok (.aload_n 0, 1) := by decide +kernel
theorem d_Lw_law_706 : decode code 706 = .ok (.iload_n 3, 1) := by decide +kernel
theorem d_Lw_law_707 : decode code 707 = .ok (.iconst 1, 1) := by decide +kernel
theorem d_Lw_law_708 : decode code 708 = .ok (.iadd, 1) := by decide +kernel
theorem d_Lw_law_709 : decode code 709 = .ok (.iaload, 1) := by decide +kernel
theorem d_Lw_law_710 : decode code 710 = .ok (.invokevirtual 97, 3) := by decide +kernel
theorem d_Lw_law_713 : decode code 713 = .ok (.if_icmp .eq 5, 3) := by decide +kernel
theorem d_Lw_law_716 : decode code 716 = .ok (.iconst 0, 1) := by decide +kernel
theorem d_Lw_law_717 : decode code 717 = .ok (.ireturn, 1) := by decide +kernel
theorem d_Lw_law_718 : decode code 718 = .ok (.iinc 3 5, 3) := by decide +kernel
theorem d_Lw_law_721 : decode code 721 = .ok (.goto (-703), 3) := by decide +kernel
theorem d_Lw_law_724 : decode code 724 = .ok (.iconst 1, 1) := by decide +kernel
theorem d_Lw_law_725 : decode code 725 = .ok (.ireturn, 1) := by decide +kernel
def wp_Lw_law_718 (K18 : Nat → Nat → Nat → Nat → Int32 → MH → Prop) (Post : Nat × (Nat → Int32)) (cn : Nat) (sn : Nat) (l1 : Nat) (l2 : Nat) (l3 : Int32) (h : MH) : Prop :=
  K18 cn sn l1 l2 (l3 + (5 : Int32)) h
def wb_Lw_law_18 (K18 : Nat → Nat → Nat → Nat → Int32 → MH → Prop) (Post : Nat × (Nat → Int32)) (cn : Nat) (sn : Nat) (l1 : Nat) (l2 : Nat) (l3 : Int32) (h : MH) : Prop :=
  ((((nI Post.1) - (5 : Int32)) < l3) →
    (cn ≤ 600000 ∧ sn ≤ 7302250)) ∧
  ((¬ ((nI Post.1) - (5 : Int32)) < l3) →
    (vp_in l3 Post.1 ∧
      ((((Post.2 (l3).toNatClampNeg) &&& (31 : Int32)) = (0 : Int32) →
          (vp_in (l3 + (1 : Int32)) Post.1 ∧
            ((cn ≤ 600000 ∧ sn ≤ 7302250) ∧ gC h l1 = some 5 ∧ wp_Br_key (fun (r134 : Int32) (h134 : MH) =>
                (vp_in (l3 + (1 : Int32)) Post.1 ∧
                  ((cn ≤ 600000 ∧ sn ≤ 7302250) ∧ gC h134 l2 = some 6 ∧ wp_Rm_key (fun (r143 : Int32) (h143 : MH) =>
                      (((r134 = r143) →
                        (wp_Lw_law_718 K18 Post cn sn l1 l2 l3 h143)) ∧
                        ((¬ r134 = r143) →
                        (False)))) l2 (Post.2 (l3 + (1 : Int32)).toNatClampNeg) h134))) l1 (Post.2 (l3 + (1 : Int32)).toNatClampNeg) h))) ∧
        (((Post.2 (l3).toNatClampNeg) &&& (31 : Int32)) = (1 : Int32) →
          (vp_in (l3 + (1 : Int32)) Post.1 ∧
            (vp_in (l3 + (2 : Int32)) Post.1 ∧
              (vp_in (l3 + (3 : Int32)) Post.1 ∧
                ((cn ≤ 600000 ∧ sn ≤ 7302250) ∧ gC h l1 = some 5 ∧ wp_Br_chord (fun (r167 : Int32) (h167 : MH) =>
                    (vp_in (l3 + (1 : Int32)) Post.1 ∧
                      (vp_in (l3 + (2 : Int32)) Post.1 ∧
                        (vp_in (l3 + (3 : Int32)) Post.1 ∧
                        ((cn ≤ 600000 ∧ sn ≤ 7302250) ∧ gC h167 l2 = some 6 ∧ wp_Rm_chord (fun (r186 : Int32) (h186 : MH) =>
                        (((r167 = r186) →
                        (wp_Lw_law_718 K18 Post cn sn l1 l2 l3 h186)) ∧
                        ((¬ r167 = r186) →
                        (False)))) l2 (Post.2 (l3 + (1 : Int32)).toNatClampNeg) (Post.2 (l3 + (2 : Int32)).toNatClampNeg) (Post.2 (l3 + (3 : Int32)).toNatClampNeg) h167))))) l1 (Post.2 (l3 + (1 : Int32)).toNatClampNeg) (Post.2 (l3 + (2 : Int32)).toNatClampNeg) (Post.2 (l3 + (3 : Int32)).toNatClampNeg) h))))) ∧
        (((Post.2 (l3).toNatClampNeg) &&& (31 : Int32)) = (2 : Int32) →
          ((cn ≤ 600000 ∧ sn ≤ 7302250) ∧ gC h l1 = some 5 ∧ wp_Br_less (fun (r195 : Int32) (h195 : MH) =>
              ((cn ≤ 600000 ∧ sn ≤ 7302250) ∧ gC h195 l2 = some 6 ∧ wp_Rm_less (fun (r199 : Int32) (h199 : MH) =>
                  (((r195 = r199) →
                      (wp_Lw_law_718 K18 Post cn sn l1 l2 l3 h199)) ∧
                    ((¬ r195 = r199) →
                      (False)))) l2 h195)) l1 h)) ∧
        (((Post.2 (l3).toNatClampNeg) &&& (31 : Int32)) = (3 : Int32) →
          (vp_in (l3 + (1 : Int32)) Post.1 ∧
            (vp_in (l3 + (2 : Int32)) Post.1 ∧
              (vp_in (l3 + (3 : Int32)) Post.1 ∧
                ((cn ≤ 600000 ∧ sn ≤ 7302250) ∧ gC h l1 = some 5 ∧ wp_Br_figure (fun (r223 : Int32) (h223 : MH) =>
                    (vp_in (l3 + (1 : Int32)) Post.1 ∧
                      (vp_in (l3 + (2 : Int32)) Post.1 ∧
                        (vp_in (l3 + (3 : Int32)) Post.1 ∧
                        ((cn ≤ 600000 ∧ sn ≤ 7302250) ∧ gC h223 l2 = some 6 ∧ wp_Rm_figure (fun (r242 : Int32) (h242 : MH) =>
                        (((r223 = r242) →
                        (wp_Lw_law_718 K18 Post cn sn l1 l2 l3 h242)) ∧
                        ((¬ r223 = r242) →
                        (False)))) l2 (Post.2 (l3 + (1 : Int32)).toNatClampNeg) (Post.2 (l3 + (2 : Int32)).toNatClampNeg) (Post.2 (l3 + (3 : Int32)).toNatClampNeg) h223))))) l1 (Post.2 (l3 + (1 : Int32)).toNatClampNeg) (Post.2 (l3 + (2 : Int32)).toNatClampNeg) (Post.2 (l3 + (3 : Int32)).toNatClampNeg) h))))) ∧
        (((Post.2 (l3).toNatClampNeg) &&& (31 : Int32)) = (4 : Int32) →
          (vp_in (l3 + (1 : Int32)) Post.1 ∧
            ((cn ≤ 600000 ∧ sn ≤ 7302250) ∧ gC h l1 = some 5 ∧ wp_Br_plain (fun (r256 : Int32) (h256 : MH) =>
                (vp_in (l3 + (1 : Int32)) Post.1 ∧
                  ((cn ≤ 600000 ∧ sn ≤ 7302250) ∧ gC h256 l2 = some 6 ∧ wp_Rm_plain (fun (r265 : Int32) (h265 : MH) =>
                      (((r256 = r265) →
                        (wp_Lw_law_718 K18 Post cn sn l1 l2 l3 h265)) ∧
                        ((¬ r256 = r265) →
                        (False)))) l2 (Post.2 (l3 + (1 : Int32)).toNatClampNeg) h256))) l1 (Post.2 (l3 + (1 : Int32)).toNatClampNeg) h))) ∧
        (((Post.2 (l3).toNatClampNeg) &&& (31 : Int32)) = (5 : Int32) →
          (vp_in (l3 + (1 : Int32)) Post.1 ∧
            (vp_in (l3 + (2 : Int32)) Post.1 ∧
              (vp_in (l3 + (3 : Int32)) Post.1 ∧
                ((cn ≤ 600000 ∧ sn ≤ 7302250) ∧ gC h l1 = some 5 ∧ wp_Br_range (fun (r289 : Int32) (h289 : MH) =>
                    (vp_in (l3 + (1 : Int32)) Post.1 ∧
                      (vp_in (l3 + (2 : Int32)) Post.1 ∧
                        (vp_in (l3 + (3 : Int32)) Post.1 ∧
                        ((cn ≤ 600000 ∧ sn ≤ 7302250) ∧ gC h289 l2 = some 6 ∧ wp_Rm_range (fun (r308 : Int32) (h308 : MH) =>
                        (((r289 = r308) →
                        (wp_Lw_law_718 K18 Post cn sn l1 l2 l3 h308)) ∧
                        ((¬ r289 = r308) →
                        (False)))) l2 (Post.2 (l3 + (1 : Int32)).toNatClampNeg) (Post.2 (l3 + (2 : Int32)).toNatClampNeg) (Post.2 (l3 + (3 : Int32)).toNatClampNeg) h289))))) l1 (Post.2 (l3 + (1 : Int32)).toNatClampNeg) (Post.2 (l3 + (2 : Int32)).toNatClampNeg) (Post.2 (l3 + (3 : Int32)).toNatClampNeg) h))))) ∧
        (((Post.2 (l3).toNatClampNeg) &&& (31 : Int32)) = (6 : Int32) →
          (vp_in (l3 + (1 : Int32)) Post.1 ∧
            (vp_in (l3 + (2 : Int32)) Post.1 ∧
              ((cn ≤ 600000 ∧ sn ≤ 7302250) ∧ gC h l1 = some 5 ∧ wp_Br_home (fun (r327 : Int32) (h327 : MH) =>
                  (vp_in (l3 + (1 : Int32)) Post.1 ∧
                    (vp_in (l3 + (2 : Int32)) Post.1 ∧
                      ((cn ≤ 600000 ∧ sn ≤ 7302250) ∧ gC h327 l2 = some 6 ∧ wp_Rm_home (fun (r341 : Int32) (h341 : MH) =>
                        (((r327 = r341) →
                        (wp_Lw_law_718 K18 Post cn sn l1 l2 l3 h341)) ∧
                        ((¬ r327 = r341) →
                        (False)))) l2 (Post.2 (l3 + (1 : Int32)).toNatClampNeg) (Post.2 (l3 + (2 : Int32)).toNatClampNeg) h327)))) l1 (Post.2 (l3 + (1 : Int32)).toNatClampNeg) (Post.2 (l3 + (2 : Int32)).toNatClampNeg) h)))) ∧
        (((Post.2 (l3).toNatClampNeg) &&& (31 : Int32)) = (7 : Int32) →
          (vp_in (l3 + (1 : Int32)) Post.1 ∧
            ((cn ≤ 600000 ∧ sn ≤ 7302250) ∧ gC h l1 = some 5 ∧ wp_Br_leap (fun (r355 : Int32) (h355 : MH) =>
                (vp_in (l3 + (1 : Int32)) Post.1 ∧
                  ((cn ≤ 600000 ∧ sn ≤ 7302250) ∧ gC h355 l2 = some 6 ∧ wp_Rm_leap (fun (r364 : Int32) (h364 : MH) =>
                      (((r355 = r364) →
                        (wp_Lw_law_718 K18 Post cn sn l1 l2 l3 h364)) ∧
                        ((¬ r355 = r364) →
                        (False)))) l2 (Post.2 (l3 + (1 : Int32)).toNatClampNeg) h355))) l1 (Post.2 (l3 + (1 : Int32)).toNatClampNeg) h))) ∧
        (((Post.2 (l3).toNatClampNeg) &&& (31 : Int32)) = (8 : Int32) →
          (vp_in (l3 + (1 : Int32)) Post.1 ∧
            (vp_in (l3 + (2 : Int32)) Post.1 ∧
              (vp_in (l3 + (3 : Int32)) Post.1 ∧
                ((cn ≤ 600000 ∧ sn ≤ 7302250) ∧ gC h l1 = some 5 ∧ wp_Br_given (fun (r388 : Int32) (h388 : MH) =>
                    (vp_in (l3 + (1 : Int32)) Post.1 ∧
                      (vp_in (l3 + (2 : Int32)) Post.1 ∧
                        (vp_in (l3 + (3 : Int32)) Post.1 ∧
                        ((cn ≤ 600000 ∧ sn ≤ 7302250) ∧ gC h388 l2 = some 6 ∧ wp_Rm_given (fun (r407 : Int32) (h407 : MH) =>
                        (((r388 = r407) →
                        (wp_Lw_law_718 K18 Post cn sn l1 l2 l3 h407)) ∧
                        ((¬ r388 = r407) →
                        (False)))) l2 (Post.2 (l3 + (1 : Int32)).toNatClampNeg) (Post.2 (l3 + (2 : Int32)).toNatClampNeg) (Post.2 (l3 + (3 : Int32)).toNatClampNeg) h388))))) l1 (Post.2 (l3 + (1 : Int32)).toNatClampNeg) (Post.2 (l3 + (2 : Int32)).toNatClampNeg) (Post.2 (l3 + (3 : Int32)).toNatClampNeg) h))))) ∧
        (((Post.2 (l3).toNatClampNeg) &&& (31 : Int32)) = (9 : Int32) →
          (vp_in (l3 + (1 : Int32)) Post.1 ∧
            ((cn ≤ 600000 ∧ sn ≤ 7302250) ∧ gC h l1 = some 5 ∧ wp_Br_bass (fun (r421 : Int32) (h421 : MH) =>
                (vp_in (l3 + (1 : Int32)) Post.1 ∧
                  ((cn ≤ 600000 ∧ sn ≤ 7302250) ∧ gC h421 l2 = some 6 ∧ wp_Rm_bass (fun (r430 : Int32) (h430 : MH) =>
                      (((r421 = r430) →
                        (wp_Lw_law_718 K18 Post cn sn l1 l2 l3 h430)) ∧
                        ((¬ r421 = r430) →
                        (False)))) l2 (Post.2 (l3 + (1 : Int32)).toNatClampNeg) h421))) l1 (Post.2 (l3 + (1 : Int32)).toNatClampNeg) h))) ∧
        (((Post.2 (l3).toNatClampNeg) &&& (31 : Int32)) = (10 : Int32) →
          (vp_in (l3 + (1 : Int32)) Post.1 ∧
            (vp_in (l3 + (2 : Int32)) Post.1 ∧
              (vp_in (l3 + (3 : Int32)) Post.1 ∧
                ((cn ≤ 600000 ∧ sn ≤ 7302250) ∧ gC h l1 = some 5 ∧ wp_Br_worked (fun (r454 : Int32) (h454 : MH) =>
                    (vp_in (l3 + (1 : Int32)) Post.1 ∧
                      (vp_in (l3 + (2 : Int32)) Post.1 ∧
                        (vp_in (l3 + (3 : Int32)) Post.1 ∧
                        ((cn ≤ 600000 ∧ sn ≤ 7302250) ∧ gC h454 l2 = some 6 ∧ wp_Rm_worked (fun (r473 : Int32) (h473 : MH) =>
                        (((r454 = r473) →
                        (wp_Lw_law_718 K18 Post cn sn l1 l2 l3 h473)) ∧
                        ((¬ r454 = r473) →
                        (False)))) l2 (Post.2 (l3 + (1 : Int32)).toNatClampNeg) (Post.2 (l3 + (2 : Int32)).toNatClampNeg) (Post.2 (l3 + (3 : Int32)).toNatClampNeg) h454))))) l1 (Post.2 (l3 + (1 : Int32)).toNatClampNeg) (Post.2 (l3 + (2 : Int32)).toNatClampNeg) (Post.2 (l3 + (3 : Int32)).toNatClampNeg) h))))) ∧
        (((Post.2 (l3).toNatClampNeg) &&& (31 : Int32)) = (11 : Int32) →
          (vp_in (l3 + (1 : Int32)) Post.1 ∧
            ((cn ≤ 600000 ∧ sn ≤ 7302250) ∧ gC h l1 = some 5 ∧ wp_Br_voicings (fun (r487 : Int32) (h487 : MH) =>
                (vp_in (l3 + (1 : Int32)) Post.1 ∧
                  ((cn ≤ 600000 ∧ sn ≤ 7302250) ∧ gC h487 l2 = some 6 ∧ wp_Rm_voicings (fun (r496 : Int32) (h496 : MH) =>
                      (((r487 = r496) →
                        (wp_Lw_law_718 K18 Post cn sn l1 l2 l3 h496)) ∧
                        ((¬ r487 = r496) →
                        (False)))) l2 (Post.2 (l3 + (1 : Int32)).toNatClampNeg) h487))) l1 (Post.2 (l3 + (1 : Int32)).toNatClampNeg) h))) ∧
        (((Post.2 (l3).toNatClampNeg) &&& (31 : Int32)) = (12 : Int32) →
          (vp_in (l3 + (1 : Int32)) Post.1 ∧
            (vp_in (l3 + (2 : Int32)) Post.1 ∧
              (vp_in (l3 + (3 : Int32)) Post.1 ∧
                ((cn ≤ 600000 ∧ sn ≤ 7302250) ∧ gC h l1 = some 5 ∧ wp_Br_voicing (fun (r520 : Int32) (h520 : MH) =>
                    (vp_in (l3 + (1 : Int32)) Post.1 ∧
                      (vp_in (l3 + (2 : Int32)) Post.1 ∧
                        (vp_in (l3 + (3 : Int32)) Post.1 ∧
                        ((cn ≤ 600000 ∧ sn ≤ 7302250) ∧ gC h520 l2 = some 6 ∧ wp_Rm_voicing (fun (r539 : Int32) (h539 : MH) =>
                        (((r520 = r539) →
                        (wp_Lw_law_718 K18 Post cn sn l1 l2 l3 h539)) ∧
                        ((¬ r520 = r539) →
                        (False)))) l2 (Post.2 (l3 + (1 : Int32)).toNatClampNeg) (Post.2 (l3 + (2 : Int32)).toNatClampNeg) (Post.2 (l3 + (3 : Int32)).toNatClampNeg) h520))))) l1 (Post.2 (l3 + (1 : Int32)).toNatClampNeg) (Post.2 (l3 + (2 : Int32)).toNatClampNeg) (Post.2 (l3 + (3 : Int32)).toNatClampNeg) h))))) ∧
        (((Post.2 (l3).toNatClampNeg) &&& (31 : Int32)) = (13 : Int32) →
          ((cn ≤ 600000 ∧ sn ≤ 7302250) ∧ gC h l1 = some 5 ∧ wp_Br_solve (fun (r548 : Int32) (h548 : MH) =>
              ((cn ≤ 600000 ∧ sn ≤ 7302250) ∧ gC h548 l2 = some 6 ∧ wp_Rm_solve (fun (r552 : Int32) (h552 : MH) =>
                  (((r548 = r552) →
                      (wp_Lw_law_718 K18 Post cn sn l1 l2 l3 h552)) ∧
                    ((¬ r548 = r552) →
                      (False)))) l2 h548)) l1 h)) ∧
        (((Post.2 (l3).toNatClampNeg) &&& (31 : Int32)) = (14 : Int32) →
          (vp_in (l3 + (1 : Int32)) Post.1 ∧
            (vp_in (l3 + (2 : Int32)) Post.1 ∧
              ((cn ≤ 600000 ∧ sn ≤ 7302250) ∧ gC h l1 = some 5 ∧ wp_Br_note (fun (r571 : Int32) (h571 : MH) =>
                  (vp_in (l3 + (1 : Int32)) Post.1 ∧
                    (vp_in (l3 + (2 : Int32)) Post.1 ∧
                      ((cn ≤ 600000 ∧ sn ≤ 7302250) ∧ gC h571 l2 = some 6 ∧ wp_Rm_note (fun (r585 : Int32) (h585 : MH) =>
                        (((r571 = r585) →
                        (wp_Lw_law_718 K18 Post cn sn l1 l2 l3 h585)) ∧
                        ((¬ r571 = r585) →
                        (False)))) l2 (Post.2 (l3 + (1 : Int32)).toNatClampNeg) (Post.2 (l3 + (2 : Int32)).toNatClampNeg) h571)))) l1 (Post.2 (l3 + (1 : Int32)).toNatClampNeg) (Post.2 (l3 + (2 : Int32)).toNatClampNeg) h)))) ∧
        (((Post.2 (l3).toNatClampNeg) &&& (31 : Int32)) = (15 : Int32) →
          ((cn ≤ 600000 ∧ sn ≤ 7302250) ∧ gC h l1 = some 5 ∧ wp_Br_many (fun (r594 : Int32) (h594 : MH) =>
              ((cn ≤ 600000 ∧ sn ≤ 7302250) ∧ gC h594 l2 = some 6 ∧ wp_Rm_many_0 (fun (r598 : Int32) (h598 : MH) =>
                  (((r594 = r598) →
                      (wp_Lw_law_718 K18 Post cn sn l1 l2 l3 h598)) ∧
                    ((¬ r594 = r598) →
                      (False)))) l2 h594)) l1 h)) ∧
        (((Post.2 (l3).toNatClampNeg) &&& (31 : Int32)) = (16 : Int32) →
          (vp_in (l3 + (1 : Int32)) Post.1 ∧
            (vp_in (l3 + (2 : Int32)) Post.1 ∧
              (vp_in (l3 + (3 : Int32)) Post.1 ∧
                (vp_in (l3 + (4 : Int32)) Post.1 ∧
                  ((cn ≤ 600000 ∧ sn ≤ 7302250) ∧ gC h l1 = some 5 ∧ wp_Br_sing (fun (r627 : Int32) (h627 : MH) =>
                      (vp_in (l3 + (1 : Int32)) Post.1 ∧
                        (vp_in (l3 + (2 : Int32)) Post.1 ∧
                        (vp_in (l3 + (3 : Int32)) Post.1 ∧
                        (vp_in (l3 + (4 : Int32)) Post.1 ∧
                        ((cn ≤ 600000 ∧ sn ≤ 7302250) ∧ gC h627 l2 = some 6 ∧ wp_Rm_sing (fun (r651 : Int32) (h651 : MH) =>
                        (((r627 = r651) →
                        (wp_Lw_law_718 K18 Post cn sn l1 l2 l3 h651)) ∧
                        ((¬ r627 = r651) →
                        (False)))) l2 (Post.2 (l3 + (1 : Int32)).toNatClampNeg) (Post.2 (l3 + (2 : Int32)).toNatClampNeg) (Post.2 (l3 + (3 : Int32)).toNatClampNeg) (Post.2 (l3 + (4 : Int32)).toNatClampNeg) h627)))))) l1 (Post.2 (l3 + (1 : Int32)).toNatClampNeg) (Post.2 (l3 + (2 : Int32)).toNatClampNeg) (Post.2 (l3 + (3 : Int32)).toNatClampNeg) (Post.2 (l3 + (4 : Int32)).toNatClampNeg) h)))))) ∧
        (((Post.2 (l3).toNatClampNeg) &&& (31 : Int32)) = (17 : Int32) →
          (vp_in (l3 + (1 : Int32)) Post.1 ∧
            ((cn ≤ 600000 ∧ sn ≤ 7302250) ∧ gC h l1 = some 5 ∧ wp_Br_fault (fun (r665 : Int32) (h665 : MH) =>
                (vp_in (l3 + (1 : Int32)) Post.1 ∧
                  ((cn ≤ 600000 ∧ sn ≤ 7302250) ∧ gC h665 l2 = some 6 ∧ wp_Rm_fault (fun (r674 : Int32) (h674 : MH) =>
                      (((r665 = r674) →
                        (wp_Lw_law_718 K18 Post cn sn l1 l2 l3 h674)) ∧
                        ((¬ r665 = r674) →
                        (False)))) l2 (Post.2 (l3 + (1 : Int32)).toNatClampNeg) h665))) l1 (Post.2 (l3 + (1 : Int32)).toNatClampNeg) h))) ∧
        (((Post.2 (l3).toNatClampNeg) &&& (31 : Int32)) = (18 : Int32) →
          ((cn ≤ 600000 ∧ sn ≤ 7302250) ∧ gC h l1 = some 5 ∧ wp_Br_sung (fun (r683 : Int32) (h683 : MH) =>
              ((cn ≤ 600000 ∧ sn ≤ 7302250) ∧ gC h683 l2 = some 6 ∧ wp_Rm_sung (fun (r687 : Int32) (h687 : MH) =>
                  (((r683 = r687) →
                      (wp_Lw_law_718 K18 Post cn sn l1 l2 l3 h687)) ∧
                    ((¬ r683 = r687) →
                      (False)))) l2 h683)) l1 h)) ∧
        (((Post.2 (l3).toNatClampNeg) &&& (31 : Int32)) = (19 : Int32) →
          (vp_in (l3 + (1 : Int32)) Post.1 ∧
            ((cn ≤ 600000 ∧ sn ≤ 7302250) ∧ gC h l1 = some 5 ∧ wp_Br_count (fun (r701 : Int32) (h701 : MH) =>
                (vp_in (l3 + (1 : Int32)) Post.1 ∧
                  ((cn ≤ 600000 ∧ sn ≤ 7302250) ∧ gC h701 l2 = some 6 ∧ wp_Rm_count (fun (r710 : Int32) (h710 : MH) =>
                      (((r701 = r710) →
                        (wp_Lw_law_718 K18 Post cn sn l1 l2 l3 h710)) ∧
                        ((¬ r701 = r710) →
                        (False)))) l2 (Post.2 (l3 + (1 : Int32)).toNatClampNeg) h701))) l1 (Post.2 (l3 + (1 : Int32)).toNatClampNeg) h))) ∧
        (¬ ((Post.2 (l3).toNatClampNeg) &&& (31 : Int32)) = (0 : Int32) → ¬ ((Post.2 (l3).toNatClampNeg) &&& (31 : Int32)) = (1 : Int32) → ¬ ((Post.2 (l3).toNatClampNeg) &&& (31 : Int32)) = (2 : Int32) → ¬ ((Post.2 (l3).toNatClampNeg) &&& (31 : Int32)) = (3 : Int32) → ¬ ((Post.2 (l3).toNatClampNeg) &&& (31 : Int32)) = (4 : Int32) → ¬ ((Post.2 (l3).toNatClampNeg) &&& (31 : Int32)) = (5 : Int32) → ¬ ((Post.2 (l3).toNatClampNeg) &&& (31 : Int32)) = (6 : Int32) → ¬ ((Post.2 (l3).toNatClampNeg) &&& (31 : Int32)) = (7 : Int32) → ¬ ((Post.2 (l3).toNatClampNeg) &&& (31 : Int32)) = (8 : Int32) → ¬ ((Post.2 (l3).toNatClampNeg) &&& (31 : Int32)) = (9 : Int32) → ¬ ((Post.2 (l3).toNatClampNeg) &&& (31 : Int32)) = (10 : Int32) → ¬ ((Post.2 (l3).toNatClampNeg) &&& (31 : Int32)) = (11 : Int32) → ¬ ((Post.2 (l3).toNatClampNeg) &&& (31 : Int32)) = (12 : Int32) → ¬ ((Post.2 (l3).toNatClampNeg) &&& (31 : Int32)) = (13 : Int32) → ¬ ((Post.2 (l3).toNatClampNeg) &&& (31 : Int32)) = (14 : Int32) → ¬ ((Post.2 (l3).toNatClampNeg) &&& (31 : Int32)) = (15 : Int32) → ¬ ((Post.2 (l3).toNatClampNeg) &&& (31 : Int32)) = (16 : Int32) → ¬ ((Post.2 (l3).toNatClampNeg) &&& (31 : Int32)) = (17 : Int32) → ¬ ((Post.2 (l3).toNatClampNeg) &&& (31 : Int32)) = (18 : Int32) → ¬ ((Post.2 (l3).toNatClampNeg) &&& (31 : Int32)) = (19 : Int32) →
          (wp_Lw_law_718 K18 Post cn sn l1 l2 l3 h)))))
def wn_Lw_law_18 (Post : Nat × (Nat → Int32)) : Nat → Nat → Nat → Nat → Nat → Int32 → MH → Prop
  | 0 => fun _ _ _ _ _ _ => False
  | n + 1 => wb_Lw_law_18 (wn_Lw_law_18 Post n) Post
def wp_Lw_law_18 (Post : Nat × (Nat → Int32)) (cn : Nat) (sn : Nat) (l1 : Nat) (l2 : Nat) (l3 : Int32) (h : MH) : Prop := ∃ n, wn_Lw_law_18 Post n cn sn l1 l2 l3 h
def wp_Lw_law (Post : Nat × (Nat → Int32)) (cn : Nat) (sn : Nat) (h : MH) : Prop :=
  (cn + 1 ≤ 600000 ∧ sn + 5 ≤ 7302250) ∧ ∀ (k0 : Nat) (h0 : MH), k0 = h.1 → h0 = mnew h (.inl (5, [.inr none, .inr none, .inr none, .inr none, .inl 0])) →
  (((cn + 1) + 112 ≤ 600000 ∧ (sn + 5) + 5831 ≤ 7302250) ∧ wp_Br_init (fun (h4 : MH) =>
      ((((cn + 1) + 112) + 1 ≤ 600000 ∧ ((sn + 5) + 5831) + 26 ≤ 7302250) ∧ ∀ (k8 : Nat) (h8 : MH), k8 = h4.1 → h8 = mnew h4 (.inl (6, [.inl 0, .inl 0, .inl 0, .inr none, .inr none, .inr none, .inr none, .inr none, .inr none, .inr none, .inl 0, .inr none, .inr none, .inr none, .inr none, .inr none, .inr none, .inr none, .inr none, .inl 0, .inr none, .inr none, .inr none, .inr none, .inl 0, .inr none])) →
        (((((cn + 1) + 112) + 1) + 20 ≤ 600000 ∧ (((sn + 5) + 5831) + 26) + 48309 ≤ 7302250) ∧ wp_Rm_init (fun (h12 : MH) =>
            (wp_Lw_law_18 Post ((((cn + 1) + 112) + 1) + 20) ((((sn + 5) + 5831) + 26) + 48309) k0 k8 (0 : Int32) h12)) 0 0 k8 h8))) 0 0 k0 h0)
set_option maxRecDepth 100000 in
set_option maxHeartbeats 4000000 in
theorem t_Lw_law_718 {Post : Nat × (Nat → Int32)} {p : Program} {l : Launch} {e : Env} {s : State} {m : MethodId} {below : List Frame} {meth : Method} {c : Code} {xb : Nat} (G : mG) (C0 : Cx G p s m #[Value.ref xb] c code 4 "BassRealiserLaw") (hR : 10 ≤ room_1.frames ∧ 386 ≤ room_1.locals ∧ 600000 ≤ room_1.cells ∧ 7302250 ≤ room_1.slots) (hr : meth.sig.returnType = ret) (hlk : meth.locks = false) (hX : va_X xb Post.1 Post.2 s s.heap) (hbl : xb < s.heap.size) (hb0 : m_b G = s.heap.size) {K18 : Nat → Nat → Nat → Nat → Int32 → MH → Prop} (hK18 : ∀ (cn : Nat) (sn : Nat) (l1 : Nat) (l2 : Nat) (l3 : Int32) (h : MH), K18 cn sn l1 l2 l3 h → WG p l e room_1 s m #[Value.ref xb] below meth c cn sn (lw_Z below #[Value.ref xb] s) G 4 [(0, .ref xb), (1, .ref (m_b G + l1)), (2, .ref (m_b G + l2)), (3, .int l3)] 18 [] h) (cn : Nat) (sn : Nat) (l1 : Nat) (l2 : Nat) (l3 : Int32) (h : MH) (hwp : wp_Lw_law_718 K18 Post cn sn l1 l2 l3 h) : WG p l e room_1 s m #[Value.ref xb] below meth c cn sn (lw_Z below #[Value.ref xb] s) G 4 [(0, .ref xb), (1, .ref (m_b G + l1)), (2, .ref (m_b G + l2)), (3, .int l3)] 718 [] h := by
  unfold wp_Lw_law_718 at hwp
  refine x_iinc C0 3 d_Lw_law_718 rfl rfl (by decide) (lv' := [(3, .int (l3 + (5 : Int32))), (0, .ref xb), (1, .ref (m_b G + l1)), (2, .ref (m_b G + l2))]) rfl ?_
  refine x_goto (tgt := 18) C0 d_Lw_law_721 (by decide) ?_
  exact x_sub [1, 2, 3, 0] rfl (hK18 _ _ _ _ _ _ hwp)
set_option maxRecDepth 100000 in
set_option maxHeartbeats 4000000 in
theorem tb_Lw_law_18 {Post : Nat × (Nat → Int32)} {p : Program} {l : Launch} {e : Env} {s : State} {m : MethodId} {below : List Frame} {meth : Method} {c : Code} {xb : Nat} (G : mG) (C0 : Cx G p s m #[Value.ref xb] c code 4 "BassRealiserLaw") (hR : 10 ≤ room_1.frames ∧ 386 ≤ room_1.locals ∧ 600000 ≤ room_1.cells ∧ 7302250 ≤ room_1.slots) (hr : meth.sig.returnType = ret) (hlk : meth.locks = false) (hX : va_X xb Post.1 Post.2 s s.heap) (hbl : xb < s.heap.size) (hb0 : m_b G = s.heap.size) {K18 : Nat → Nat → Nat → Nat → Int32 → MH → Prop} (hK18 : ∀ (cn : Nat) (sn : Nat) (l1 : Nat) (l2 : Nat) (l3 : Int32) (h : MH), K18 cn sn l1 l2 l3 h → WG p l e room_1 s m #[Value.ref xb] below meth c cn sn (lw_Z below #[Value.ref xb] s) G 4 [(0, .ref xb), (1, .ref (m_b G + l1)), (2, .ref (m_b G + l2)), (3, .int l3)] 18 [] h) (cn : Nat) (sn : Nat) (l1 : Nat) (l2 : Nat) (l3 : Int32) (h : MH) (hwp : wb_Lw_law_18 K18 Post cn sn l1 l2 l3 h) : WG p l e room_1 s m #[Value.ref xb] below meth c cn sn (lw_Z below #[Value.ref xb] s) G 4 [(0, .ref xb), (1, .ref (m_b G + l1)), (2, .ref (m_b G + l2)), (3, .int l3)] 18 [] h := by
  unfold wb_Lw_law_18 at hwp
  refine x_iload_n C0 3 d_Lw_law_18 rfl rfl ?_
  refine x_aload_n C0 0 d_Lw_law_19 rfl rfl ?_
  refine x_scl C0 hX hbl hb0 d_Lw_law_20 ?_
  refine x_iconst (v := 5) C0 d_Lw_law_21 (by decide) ?_
  refine x_isub C0 d_Lw_law_22 ?_
  refine x_icmp_gt (tgt := 724) C0 d_Lw_law_23 (by decide) (fun c23 => ?_) (fun c23 => ?_)
  · replace hwp := hwp.1 c23
    refine x_iconst (v := 1) C0 d_Lw_law_724 (by decide) ?_
    refine x_cs hwp.1 hwp.2 ?_
    exact x_lret C0 hr hlk hb0 d_Lw_law_725
  · replace hwp := hwp.2 c23
    refine x_aload_n C0 0 d_Lw_law_26 rfl rfl ?_
    refine x_iload_n C0 3 d_Lw_law_27 rfl rfl ?_
    obtain ⟨i28, hwp⟩ := hwp
    refine x_scr C0 hX hbl hb0 i28 d_Lw_law_28 ?_
    refine x_bipush (v := 31) C0 d_Lw_law_29 (by decide) ?_
    refine x_iand C0 d_Lw_law_31 ?_
    by_cases c32_0 : ((Post.2 (l3).toNatClampNeg) &&& (31 : Int32)) = (0 : Int32)
    · replace hwp := hwp.1 c32_0
      refine x_tableIn (tgt := 128) (off := 96) C0 d_Lw_law_32 (by rw [c32_0]; decide) (by rw [c32_0]; decide) (by rw [c32_0]; rfl) (by decide) ?_
      refine x_aload_n C0 1 d_Lw_law_128 rfl rfl ?_
      refine x_aload_n C0 0 d_Lw_law_129 rfl rfl ?_
      refine x_iload_n C0 3 d_Lw_law_130 rfl rfl ?_
      refine x_iconst (v := 1) C0 d_Lw_law_131 (by decide) ?_
      refine x_iadd C0 d_Lw_law_132 ?_
      obtain ⟨i133, hwp⟩ := hwp
      refine x_scr C0 hX hbl hb0 i133 d_Lw_law_133 ?_
      obtain ⟨b134, hwp⟩ := hwp
      obtain ⟨g134, hwp⟩ := hwp
      refine x_callVi0 (k := l1) (As := [.int (Post.2 (l3 + (1 : Int32)).toNatClampNeg)]) (st := []) C0 (c_Br_key l G hwp) kw_1_222 mk_Br_key vk_Br_key rfl g134 rfl (Nat.le_of_ble_eq_true rfl) rfl rfl ⟨Nat.le_trans (by decide) hR.1, Nat.le_trans (by decide) hR.2.1⟩ ⟨Nat.le_trans b134.1 hR.2.2.1, Nat.le_trans b134.2 hR.2.2.2⟩ rfl d_Lw_law_134 (fun r134 h134 hwp => ?_)
      refine x_aload_n C0 2 d_Lw_law_137 rfl rfl ?_
      refine x_aload_n C0 0 d_Lw_law_138 rfl rfl ?_
      refine x_iload_n C0 3 d_Lw_law_139 rfl rfl ?_
      refine x_iconst (v := 1) C0 d_Lw_law_140 (by decide) ?_
      refine x_iadd C0 d_Lw_law_141 ?_
      obtain ⟨i142, hwp⟩ := hwp
      refine x_scr C0 hX hbl hb0 i142 d_Lw_law_142 ?_
      obtain ⟨b143, hwp⟩ := hwp
      obtain ⟨g143, hwp⟩ := hwp
      refine x_callVi0 (k := l2) (As := [.int (Post.2 (l3 + (1 : Int32)).toNatClampNeg)]) (st := [.int r134]) C0 (c_Rm_key l G hwp) kw_3_167 mk_Rm_key vk_Rm_key rfl g143 rfl (Nat.le_of_ble_eq_true rfl) rfl rfl ⟨Nat.le_trans (by decide) hR.1, Nat.le_trans (by decide) hR.2.1⟩ ⟨Nat.le_trans b143.1 hR.2.2.1, Nat.le_trans b143.2 hR.2.2.2⟩ rfl d_Lw_law_143 (fun r143 h143 hwp => ?_)
      refine x_icmp_eq (tgt := 718) C0 d_Lw_law_146 (by decide) (fun c146 => ?_) (fun c146 => ?_)
      · replace hwp := hwp.1 c146
        exact x_sub [0, 1, 2, 3] rfl (t_Lw_law_718 G C0 hR hr hlk hX hbl hb0 hK18 _ _ _ _ _ _ hwp)
      · replace hwp := hwp.2 c146
        refine x_iconst (v := 0) C0 d_Lw_law_149 (by decide) ?_
        exact hwp.elim
    by_cases c32_1 : ((Post.2 (l3).toNatClampNeg) &&& (31 : Int32)) = (1 : Int32)
    · replace hwp := hwp.2.1 c32_1
      refine x_tableIn (tgt := 151) (off := 119) C0 d_Lw_law_32 (by rw [c32_1]; decide) (by rw [c32_1]; decide) (by rw [c32_1]; rfl) (by decide) ?_
      refine x_aload_n C0 1 d_Lw_law_151 rfl rfl ?_
      refine x_aload_n C0 0 d_Lw_law_152 rfl rfl ?_
      refine x_iload_n C0 3 d_Lw_law_153 rfl rfl ?_
      refine x_iconst (v := 1) C0 d_Lw_law_154 (by decide) ?_
      refine x_iadd C0 d_Lw_law_155 ?_
      obtain ⟨i156, hwp⟩ := hwp
      refine x_scr C0 hX hbl hb0 i156 d_Lw_law_156 ?_
      refine x_aload_n C0 0 d_Lw_law_157 rfl rfl ?_
      refine x_iload_n C0 3 d_Lw_law_158 rfl rfl ?_
      refine x_iconst (v := 2) C0 d_Lw_law_159 (by decide) ?_
      refine x_iadd C0 d_Lw_law_160 ?_
      obtain ⟨i161, hwp⟩ := hwp
      refine x_scr C0 hX hbl hb0 i161 d_Lw_law_161 ?_
      refine x_aload_n C0 0 d_Lw_law_162 rfl rfl ?_
      refine x_iload_n C0 3 d_Lw_law_163 rfl rfl ?_
      refine x_iconst (v := 3) C0 d_Lw_law_164 (by decide) ?_
      refine x_iadd C0 d_Lw_law_165 ?_
      obtain ⟨i166, hwp⟩ := hwp
      refine x_scr C0 hX hbl hb0 i166 d_Lw_law_166 ?_
      obtain ⟨b167, hwp⟩ := hwp
      obtain ⟨g167, hwp⟩ := hwp
      refine x_callVi0 (k := l1) (As := [.int (Post.2 (l3 + (1 : Int32)).toNatClampNeg), .int (Post.2 (l3 + (2 : Int32)).toNatClampNeg), .int (Post.2 (l3 + (3 : Int32)).toNatClampNeg)]) (st := []) C0 (c_Br_chord l G hwp) kw_2_40 mk_Br_chord vk_Br_chord rfl g167 rfl (Nat.le_of_ble_eq_true rfl) rfl rfl ⟨Nat.le_trans (by decide) hR.1, Nat.le_trans (by decide) hR.2.1⟩ ⟨Nat.le_trans b167.1 hR.2.2.1, Nat.le_trans b167.2 hR.2.2.2⟩ rfl d_Lw_law_167 (fun r167 h167 hwp => ?_)
      refine x_aload_n C0 2 d_Lw_law_170 rfl rfl ?_
      refine x_aload_n C0 0 d_Lw_law_171 rfl rfl ?_
      refine x_iload_n C0 3 d_Lw_law_172 rfl rfl ?_
      refine x_iconst (v := 1) C0 d_Lw_law_173 (by decide) ?_
      refine x_iadd C0 d_Lw_law_174 ?_
      obtain ⟨i175, hwp⟩ := hwp
      refine x_scr C0 hX hbl hb0 i175 d_Lw_law_175 ?_
      refine x_aload_n C0 0 d_Lw_law_176 rfl rfl ?_
      refine x_iload_n C0 3 d_Lw_law_177 rfl rfl ?_
      refine x_iconst (v := 2) C0 d_Lw_law_178 (by decide) ?_
      refine x_iadd C0 d_Lw_law_179 ?_
      obtain ⟨i180, hwp⟩ := hwp
      refine x_scr C0 hX hbl hb0 i180 d_Lw_law_180 ?_
      refine x_aload_n C0 0 d_Lw_law_181 rfl rfl ?_
      refine x_iload_n C0 3 d_Lw_law_182 rfl rfl ?_
      refine x_iconst (v := 3) C0 d_Lw_law_183 (by decide) ?_
      refine x_iadd C0 d_Lw_law_184 ?_
      obtain ⟨i185, hwp⟩ := hwp
      refine x_scr C0 hX hbl hb0 i185 d_Lw_law_185 ?_
      obtain ⟨b186, hwp⟩ := hwp
      obtain ⟨g186, hwp⟩ := hwp
      refine x_callVi0 (k := l2) (As := [.int (Post.2 (l3 + (1 : Int32)).toNatClampNeg), .int (Post.2 (l3 + (2 : Int32)).toNatClampNeg), .int (Post.2 (l3 + (3 : Int32)).toNatClampNeg)]) (st := [.int r167]) C0 (c_Rm_chord l G hwp) kw_3_176 mk_Rm_chord vk_Rm_chord rfl g186 rfl (Nat.le_of_ble_eq_true rfl) rfl rfl ⟨Nat.le_trans (by decide) hR.1, Nat.le_trans (by decide) hR.2.1⟩ ⟨Nat.le_trans b186.1 hR.2.2.1, Nat.le_trans b186.2 hR.2.2.2⟩ rfl d_Lw_law_186 (fun r186 h186 hwp => ?_)
      refine x_icmp_eq (tgt := 718) C0 d_Lw_law_189 (by decide) (fun c189 => ?_) (fun c189 => ?_)
      · replace hwp := hwp.1 c189
        exact x_sub [0, 1, 2, 3] rfl (t_Lw_law_718 G C0 hR hr hlk hX hbl hb0 hK18 _ _ _ _ _ _ hwp)
      · replace hwp := hwp.2 c189
        refine x_iconst (v := 0) C0 d_Lw_law_192 (by decide) ?_
        exact hwp.elim
    by_cases c32_2 : ((Post.2 (l3).toNatClampNeg) &&& (31 : Int32)) = (2 : Int32)
    · replace hwp := hwp.2.2.1 c32_2
      refine x_tableIn (tgt := 194) (off := 162) C0 d_Lw_law_32 (by rw [c32_2]; decide) (by rw [c32_2]; decide) (by rw [c32_2]; rfl) (by decide) ?_
      refine x_aload_n C0 1 d_Lw_law_194 rfl rfl ?_
      obtain ⟨b195, hwp⟩ := hwp
      obtain ⟨g195, hwp⟩ := hwp
      refine x_callVi0 (k := l1) (As := []) (st := []) C0 (c_Br_less l G hwp) kw_2_56 mk_Br_less vk_Br_less rfl g195 rfl (Nat.le_of_ble_eq_true rfl) rfl rfl ⟨Nat.le_trans (by decide) hR.1, Nat.le_trans (by decide) hR.2.1⟩ ⟨Nat.le_trans b195.1 hR.2.2.1, Nat.le_trans b195.2 hR.2.2.2⟩ rfl d_Lw_law_195 (fun r195 h195 hwp => ?_)
      refine x_aload_n C0 2 d_Lw_law_198 rfl rfl ?_
      obtain ⟨b199, hwp⟩ := hwp
      obtain ⟨g199, hwp⟩ := hwp
      refine x_callVi0 (k := l2) (As := []) (st := [.int r195]) C0 (c_Rm_less l G hwp) kw_3_183 mk_Rm_less vk_Rm_less rfl g199 rfl (Nat.le_of_ble_eq_true rfl) rfl rfl ⟨Nat.le_trans (by decide) hR.1, Nat.le_trans (by decide) hR.2.1⟩ ⟨Nat.le_trans b199.1 hR.2.2.1, Nat.le_trans b199.2 hR.2.2.2⟩ rfl d_Lw_law_199 (fun r199 h199 hwp => ?_)
      refine x_icmp_eq (tgt := 718) C0 d_Lw_law_202 (by decide) (fun c202 => ?_) (fun c202 => ?_)
      · replace hwp := hwp.1 c202
        exact x_sub [0, 1, 2, 3] rfl (t_Lw_law_718 G C0 hR hr hlk hX hbl hb0 hK18 _ _ _ _ _ _ hwp)
      · replace hwp := hwp.2 c202
        refine x_iconst (v := 0) C0 d_Lw_law_205 (by decide) ?_
        exact hwp.elim
    by_cases c32_3 : ((Post.2 (l3).toNatClampNeg) &&& (31 : Int32)) = (3 : Int32)
    · replace hwp := hwp.2.2.2.1 c32_3
      refine x_tableIn (tgt := 207) (off := 175) C0 d_Lw_law_32 (by rw [c32_3]; decide) (by rw [c32_3]; decide) (by rw [c32_3]; rfl) (by decide) ?_
      refine x_aload_n C0 1 d_Lw_law_207 rfl rfl ?_
      refine x_aload_n C0 0 d_Lw_law_208 rfl rfl ?_
      refine x_iload_n C0 3 d_Lw_law_209 rfl rfl ?_
      refine x_iconst (v := 1) C0 d_Lw_law_210 (by decide) ?_
      refine x_iadd C0 d_Lw_law_211 ?_
      obtain ⟨i212, hwp⟩ := hwp
      refine x_scr C0 hX hbl hb0 i212 d_Lw_law_212 ?_
      refine x_aload_n C0 0 d_Lw_law_213 rfl rfl ?_
      refine x_iload_n C0 3 d_Lw_law_214 rfl rfl ?_
      refine x_iconst (v := 2) C0 d_Lw_law_215 (by decide) ?_
      refine x_iadd C0 d_Lw_law_216 ?_
      obtain ⟨i217, hwp⟩ := hwp
      refine x_scr C0 hX hbl hb0 i217 d_Lw_law_217 ?_
      refine x_aload_n C0 0 d_Lw_law_218 rfl rfl ?_
      refine x_iload_n C0 3 d_Lw_law_219 rfl rfl ?_
      refine x_iconst (v := 3) C0 d_Lw_law_220 (by decide) ?_
      refine x_iadd C0 d_Lw_law_221 ?_
      obtain ⟨i222, hwp⟩ := hwp
      refine x_scr C0 hX hbl hb0 i222 d_Lw_law_222 ?_
      obtain ⟨b223, hwp⟩ := hwp
      obtain ⟨g223, hwp⟩ := hwp
      refine x_callVi0 (k := l1) (As := [.int (Post.2 (l3 + (1 : Int32)).toNatClampNeg), .int (Post.2 (l3 + (2 : Int32)).toNatClampNeg), .int (Post.2 (l3 + (3 : Int32)).toNatClampNeg)]) (st := []) C0 (c_Br_figure l G hwp) kw_2_60 mk_Br_figure vk_Br_figure rfl g223 rfl (Nat.le_of_ble_eq_true rfl) rfl rfl ⟨Nat.le_trans (by decide) hR.1, Nat.le_trans (by decide) hR.2.1⟩ ⟨Nat.le_trans b223.1 hR.2.2.1, Nat.le_trans b223.2 hR.2.2.2⟩ rfl d_Lw_law_223 (fun r223 h223 hwp => ?_)
      refine x_aload_n C0 2 d_Lw_law_226 rfl rfl ?_
      refine x_aload_n C0 0 d_Lw_law_227 rfl rfl ?_
      refine x_iload_n C0 3 d_Lw_law_228 rfl rfl ?_
      refine x_iconst (v := 1) C0 d_Lw_law_229 (by decide) ?_
      refine x_iadd C0 d_Lw_law_230 ?_
      obtain ⟨i231, hwp⟩ := hwp
      refine x_scr C0 hX hbl hb0 i231 d_Lw_law_231 ?_
      refine x_aload_n C0 0 d_Lw_law_232 rfl rfl ?_
      refine x_iload_n C0 3 d_Lw_law_233 rfl rfl ?_
      refine x_iconst (v := 2) C0 d_Lw_law_234 (by decide) ?_
      refine x_iadd C0 d_Lw_law_235 ?_
      obtain ⟨i236, hwp⟩ := hwp
      refine x_scr C0 hX hbl hb0 i236 d_Lw_law_236 ?_
      refine x_aload_n C0 0 d_Lw_law_237 rfl rfl ?_
      refine x_iload_n C0 3 d_Lw_law_238 rfl rfl ?_
      refine x_iconst (v := 3) C0 d_Lw_law_239 (by decide) ?_
      refine x_iadd C0 d_Lw_law_240 ?_
      obtain ⟨i241, hwp⟩ := hwp
      refine x_scr C0 hX hbl hb0 i241 d_Lw_law_241 ?_
      obtain ⟨b242, hwp⟩ := hwp
      obtain ⟨g242, hwp⟩ := hwp
      refine x_callVi0 (k := l2) (As := [.int (Post.2 (l3 + (1 : Int32)).toNatClampNeg), .int (Post.2 (l3 + (2 : Int32)).toNatClampNeg), .int (Post.2 (l3 + (3 : Int32)).toNatClampNeg)]) (st := [.int r223]) C0 (c_Rm_figure l G hwp) kw_3_187 mk_Rm_figure vk_Rm_figure rfl g242 rfl (Nat.le_of_ble_eq_true rfl) rfl rfl ⟨Nat.le_trans (by decide) hR.1, Nat.le_trans (by decide) hR.2.1⟩ ⟨Nat.le_trans b242.1 hR.2.2.1, Nat.le_trans b242.2 hR.2.2.2⟩ rfl d_Lw_law_242 (fun r242 h242 hwp => ?_)
      refine x_icmp_eq (tgt := 718) C0 d_Lw_law_245 (by decide) (fun c245 => ?_) (fun c245 => ?_)
      · replace hwp := hwp.1 c245
        exact x_sub [0, 1, 2, 3] rfl (t_Lw_law_718 G C0 hR hr hlk hX hbl hb0 hK18 _ _ _ _ _ _ hwp)
      · replace hwp := hwp.2 c245
        refine x_iconst (v := 0) C0 d_Lw_law_248 (by decide) ?_
        exact hwp.elim
    by_cases c32_4 : ((Post.2 (l3).toNatClampNeg) &&& (31 : Int32)) = (4 : Int32)
    · replace hwp := hwp.2.2.2.2.1 c32_4
      refine x_tableIn (tgt := 250) (off := 218) C0 d_Lw_law_32 (by rw [c32_4]; decide) (by rw [c32_4]; decide) (by rw [c32_4]; rfl) (by decide) ?_
      refine x_aload_n C0 1 d_Lw_law_250 rfl rfl ?_
      refine x_aload_n C0 0 d_Lw_law_251 rfl rfl ?_
      refine x_iload_n C0 3 d_Lw_law_252 rfl rfl ?_
      refine x_iconst (v := 1) C0 d_Lw_law_253 (by decide) ?_
      refine x_iadd C0 d_Lw_law_254 ?_
      obtain ⟨i255, hwp⟩ := hwp
      refine x_scr C0 hX hbl hb0 i255 d_Lw_law_255 ?_
      obtain ⟨b256, hwp⟩ := hwp
      obtain ⟨g256, hwp⟩ := hwp
      refine x_callVi0 (k := l1) (As := [.int (Post.2 (l3 + (1 : Int32)).toNatClampNeg)]) (st := []) C0 (c_Br_plain l G hwp) kw_2_79 mk_Br_plain vk_Br_plain rfl g256 rfl (Nat.le_of_ble_eq_true rfl) rfl rfl ⟨Nat.le_trans (by decide) hR.1, Nat.le_trans (by decide) hR.2.1⟩ ⟨Nat.le_trans b256.1 hR.2.2.1, Nat.le_trans b256.2 hR.2.2.2⟩ rfl d_Lw_law_256 (fun r256 h256 hwp => ?_)
      refine x_aload_n C0 2 d_Lw_law_259 rfl rfl ?_
      refine x_aload_n C0 0 d_Lw_law_260 rfl rfl ?_
      refine x_iload_n C0 3 d_Lw_law_261 rfl rfl ?_
      refine x_iconst (v := 1) C0 d_Lw_law_262 (by decide) ?_
      refine x_iadd C0 d_Lw_law_263 ?_
      obtain ⟨i264, hwp⟩ := hwp
      refine x_scr C0 hX hbl hb0 i264 d_Lw_law_264 ?_
      obtain ⟨b265, hwp⟩ := hwp
      obtain ⟨g265, hwp⟩ := hwp
      refine x_callVi0 (k := l2) (As := [.int (Post.2 (l3 + (1 : Int32)).toNatClampNeg)]) (st := [.int r256]) C0 (c_Rm_plain l G hwp) kw_3_210 mk_Rm_plain vk_Rm_plain rfl g265 rfl (Nat.le_of_ble_eq_true rfl) rfl rfl ⟨Nat.le_trans (by decide) hR.1, Nat.le_trans (by decide) hR.2.1⟩ ⟨Nat.le_trans b265.1 hR.2.2.1, Nat.le_trans b265.2 hR.2.2.2⟩ rfl d_Lw_law_265 (fun r265 h265 hwp => ?_)
      refine x_icmp_eq (tgt := 718) C0 d_Lw_law_268 (by decide) (fun c268 => ?_) (fun c268 => ?_)
      · replace hwp := hwp.1 c268
        exact x_sub [0, 1, 2, 3] rfl (t_Lw_law_718 G C0 hR hr hlk hX hbl hb0 hK18 _ _ _ _ _ _ hwp)
      · replace hwp := hwp.2 c268
        refine x_iconst (v := 0) C0 d_Lw_law_271 (by decide) ?_
        exact hwp.elim
    by_cases c32_5 : ((Post.2 (l3).toNatClampNeg) &&& (31 : Int32)) = (5 : Int32)
    · replace hwp := hwp.2.2.2.2.2.1 c32_5
      refine x_tableIn (tgt := 273) (off := 241) C0 d_Lw_law_32 (by rw [c32_5]; decide) (by rw [c32_5]; decide) (by rw [c32_5]; rfl) (by decide) ?_
      refine x_aload_n C0 1 d_Lw_law_273 rfl rfl ?_
      refine x_aload_n C0 0 d_Lw_law_274 rfl rfl ?_
      refine x_iload_n C0 3 d_Lw_law_275 rfl rfl ?_
      refine x_iconst (v := 1) C0 d_Lw_law_276 (by decide) ?_
      refine x_iadd C0 d_Lw_law_277 ?_
      obtain ⟨i278, hwp⟩ := hwp
      refine x_scr C0 hX hbl hb0 i278 d_Lw_law_278 ?_
      refine x_aload_n C0 0 d_Lw_law_279 rfl rfl ?_
      refine x_iload_n C0 3 d_Lw_law_280 rfl rfl ?_
      refine x_iconst (v := 2) C0 d_Lw_law_281 (by decide) ?_
      refine x_iadd C0 d_Lw_law_282 ?_
      obtain ⟨i283, hwp⟩ := hwp
      refine x_scr C0 hX hbl hb0 i283 d_Lw_law_283 ?_
      refine x_aload_n C0 0 d_Lw_law_284 rfl rfl ?_
      refine x_iload_n C0 3 d_Lw_law_285 rfl rfl ?_
      refine x_iconst (v := 3) C0 d_Lw_law_286 (by decide) ?_
      refine x_iadd C0 d_Lw_law_287 ?_
      obtain ⟨i288, hwp⟩ := hwp
      refine x_scr C0 hX hbl hb0 i288 d_Lw_law_288 ?_
      obtain ⟨b289, hwp⟩ := hwp
      obtain ⟨g289, hwp⟩ := hwp
      refine x_callVi0 (k := l1) (As := [.int (Post.2 (l3 + (1 : Int32)).toNatClampNeg), .int (Post.2 (l3 + (2 : Int32)).toNatClampNeg), .int (Post.2 (l3 + (3 : Int32)).toNatClampNeg)]) (st := []) C0 (c_Br_range l G hwp) kw_2_84 mk_Br_range vk_Br_range rfl g289 rfl (Nat.le_of_ble_eq_true rfl) rfl rfl ⟨Nat.le_trans (by decide) hR.1, Nat.le_trans (by decide) hR.2.1⟩ ⟨Nat.le_trans b289.1 hR.2.2.1, Nat.le_trans b289.2 hR.2.2.2⟩ rfl d_Lw_law_289 (fun r289 h289 hwp => ?_)
      refine x_aload_n C0 2 d_Lw_law_292 rfl rfl ?_
      refine x_aload_n C0 0 d_Lw_law_293 rfl rfl ?_
      refine x_iload_n C0 3 d_Lw_law_294 rfl rfl ?_
      refine x_iconst (v := 1) C0 d_Lw_law_295 (by decide) ?_
      refine x_iadd C0 d_Lw_law_296 ?_
      obtain ⟨i297, hwp⟩ := hwp
      refine x_scr C0 hX hbl hb0 i297 d_Lw_law_297 ?_
      refine x_aload_n C0 0 d_Lw_law_298 rfl rfl ?_
      refine x_iload_n C0 3 d_Lw_law_299 rfl rfl ?_
      refine x_iconst (v := 2) C0 d_Lw_law_300 (by decide) ?_
      refine x_iadd C0 d_Lw_law_301 ?_
      obtain ⟨i302, hwp⟩ := hwp
      refine x_scr C0 hX hbl hb0 i302 d_Lw_law_302 ?_
      refine x_aload_n C0 0 d_Lw_law_303 rfl rfl ?_
      refine x_iload_n C0 3 d_Lw_law_304 rfl rfl ?_
      refine x_iconst (v := 3) C0 d_Lw_law_305 (by decide) ?_
      refine x_iadd C0 d_Lw_law_306 ?_
      obtain ⟨i307, hwp⟩ := hwp
      refine x_scr C0 hX hbl hb0 i307 d_Lw_law_307 ?_
      obtain ⟨b308, hwp⟩ := hwp
      obtain ⟨g308, hwp⟩ := hwp
      refine x_callVi0 (k := l2) (As := [.int (Post.2 (l3 + (1 : Int32)).toNatClampNeg), .int (Post.2 (l3 + (2 : Int32)).toNatClampNeg), .int (Post.2 (l3 + (3 : Int32)).toNatClampNeg)]) (st := [.int r289]) C0 (c_Rm_range l G hwp) kw_3_214 mk_Rm_range vk_Rm_range rfl g308 rfl (Nat.le_of_ble_eq_true rfl) rfl rfl ⟨Nat.le_trans (by decide) hR.1, Nat.le_trans (by decide) hR.2.1⟩ ⟨Nat.le_trans b308.1 hR.2.2.1, Nat.le_trans b308.2 hR.2.2.2⟩ rfl d_Lw_law_308 (fun r308 h308 hwp => ?_)
      refine x_icmp_eq (tgt := 718) C0 d_Lw_law_311 (by decide) (fun c311 => ?_) (fun c311 => ?_)
      · replace hwp := hwp.1 c311
        exact x_sub [0, 1, 2, 3] rfl (t_Lw_law_718 G C0 hR hr hlk hX hbl hb0 hK18 _ _ _ _ _ _ hwp)
      · replace hwp := hwp.2 c311
        refine x_iconst (v := 0) C0 d_Lw_law_314 (by decide) ?_
        exact hwp.elim
    by_cases c32_6 : ((Post.2 (l3).toNatClampNeg) &&& (31 : Int32)) = (6 : Int32)
    · replace hwp := hwp.2.2.2.2.2.2.1 c32_6
      refine x_tableIn (tgt := 316) (off := 284) C0 d_Lw_law_32 (by rw [c32_6]; decide) (by rw [c32_6]; decide) (by rw [c32_6]; rfl) (by decide) ?_
      refine x_aload_n C0 1 d_Lw_law_316 rfl rfl ?_
      refine x_aload_n C0 0 d_Lw_law_317 rfl rfl ?_
      refine x_iload_n C0 3 d_Lw_law_318 rfl rfl ?_
      refine x_iconst (v := 1) C0 d_Lw_law_319 (by decide) ?_
      refine x_iadd C0 d_Lw_law_320 ?_
      obtain ⟨i321, hwp⟩ := hwp
      refine x_scr C0 hX hbl hb0 i321 d_Lw_law_321 ?_
      refine x_aload_n C0 0 d_Lw_law_322 rfl rfl ?_
      refine x_iload_n C0 3 d_Lw_law_323 rfl rfl ?_
      refine x_iconst (v := 2) C0 d_Lw_law_324 (by decide) ?_
      refine x_iadd C0 d_Lw_law_325 ?_
      obtain ⟨i326, hwp⟩ := hwp
      refine x_scr C0 hX hbl hb0 i326 d_Lw_law_326 ?_
      obtain ⟨b327, hwp⟩ := hwp
      obtain ⟨g327, hwp⟩ := hwp
      refine x_callVi0 (k := l1) (As := [.int (Post.2 (l3 + (1 : Int32)).toNatClampNeg), .int (Post.2 (l3 + (2 : Int32)).toNatClampNeg)]) (st := []) C0 (c_Br_home l G hwp) kw_2_94 mk_Br_home vk_Br_home rfl g327 rfl (Nat.le_of_ble_eq_true rfl) rfl rfl ⟨Nat.le_trans (by decide) hR.1, Nat.le_trans (by decide) hR.2.1⟩ ⟨Nat.le_trans b327.1 hR.2.2.1, Nat.le_trans b327.2 hR.2.2.2⟩ rfl d_Lw_law_327 (fun r327 h327 hwp => ?_)
      refine x_aload_n C0 2 d_Lw_law_330 rfl rfl ?_
      refine x_aload_n C0 0 d_Lw_law_331 rfl rfl ?_
      refine x_iload_n C0 3 d_Lw_law_332 rfl rfl ?_
      refine x_iconst (v := 1) C0 d_Lw_law_333 (by decide) ?_
      refine x_iadd C0 d_Lw_law_334 ?_
      obtain ⟨i335, hwp⟩ := hwp
      refine x_scr C0 hX hbl hb0 i335 d_Lw_law_335 ?_
      refine x_aload_n C0 0 d_Lw_law_336 rfl rfl ?_
      refine x_iload_n C0 3 d_Lw_law_337 rfl rfl ?_
      refine x_iconst (v := 2) C0 d_Lw_law_338 (by decide) ?_
      refine x_iadd C0 d_Lw_law_339 ?_
      obtain ⟨i340, hwp⟩ := hwp
      refine x_scr C0 hX hbl hb0 i340 d_Lw_law_340 ?_
      obtain ⟨b341, hwp⟩ := hwp
      obtain ⟨g341, hwp⟩ := hwp
      refine x_callVi0 (k := l2) (As := [.int (Post.2 (l3 + (1 : Int32)).toNatClampNeg), .int (Post.2 (l3 + (2 : Int32)).toNatClampNeg)]) (st := [.int r327]) C0 (c_Rm_home l G hwp) kw_3_219 mk_Rm_home vk_Rm_home rfl g341 rfl (Nat.le_of_ble_eq_true rfl) rfl rfl ⟨Nat.le_trans (by decide) hR.1, Nat.le_trans (by decide) hR.2.1⟩ ⟨Nat.le_trans b341.1 hR.2.2.1, Nat.le_trans b341.2 hR.2.2.2⟩ rfl d_Lw_law_341 (fun r341 h341 hwp => ?_)
      refine x_icmp_eq (tgt := 718) C0 d_Lw_law_344 (by decide) (fun c344 => ?_) (fun c344 => ?_)
      · replace hwp := hwp.1 c344
        exact x_sub [0, 1, 2, 3] rfl (t_Lw_law_718 G C0 hR hr hlk hX hbl hb0 hK18 _ _ _ _ _ _ hwp)
      · replace hwp := hwp.2 c344
        refine x_iconst (v := 0) C0 d_Lw_law_347 (by decide) ?_
        exact hwp.elim
    by_cases c32_7 : ((Post.2 (l3).toNatClampNeg) &&& (31 : Int32)) = (7 : Int32)
    · replace hwp := hwp.2.2.2.2.2.2.2.1 c32_7
      refine x_tableIn (tgt := 349) (off := 317) C0 d_Lw_law_32 (by rw [c32_7]; decide) (by rw [c32_7]; decide) (by rw [c32_7]; rfl) (by decide) ?_
      refine x_aload_n C0 1 d_Lw_law_349 rfl rfl ?_
      refine x_aload_n C0 0 d_Lw_law_350 rfl rfl ?_
      refine x_iload_n C0 3 d_Lw_law_351 rfl rfl ?_
      refine x_iconst (v := 1) C0 d_Lw_law_352 (by decide) ?_
      refine x_iadd C0 d_Lw_law_353 ?_
      obtain ⟨i354, hwp⟩ := hwp
      refine x_scr C0 hX hbl hb0 i354 d_Lw_law_354 ?_
      obtain ⟨b355, hwp⟩ := hwp
      obtain ⟨g355, hwp⟩ := hwp
      refine x_callVi0 (k := l1) (As := [.int (Post.2 (l3 + (1 : Int32)).toNatClampNeg)]) (st := []) C0 (c_Br_leap l G hwp) kw_2_102 mk_Br_leap vk_Br_leap rfl g355 rfl (Nat.le_of_ble_eq_true rfl) rfl rfl ⟨Nat.le_trans (by decide) hR.1, Nat.le_trans (by decide) hR.2.1⟩ ⟨Nat.le_trans b355.1 hR.2.2.1, Nat.le_trans b355.2 hR.2.2.2⟩ rfl d_Lw_law_355 (fun r355 h355 hwp => ?_)
      refine x_aload_n C0 2 d_Lw_law_358 rfl rfl ?_
      refine x_aload_n C0 0 d_Lw_law_359 rfl rfl ?_
      refine x_iload_n C0 3 d_Lw_law_360 rfl rfl ?_
      refine x_iconst (v := 1) C0 d_Lw_law_361 (by decide) ?_
      refine x_iadd C0 d_Lw_law_362 ?_
      obtain ⟨i363, hwp⟩ := hwp
      refine x_scr C0 hX hbl hb0 i363 d_Lw_law_363 ?_
      obtain ⟨b364, hwp⟩ := hwp
      obtain ⟨g364, hwp⟩ := hwp
      refine x_callVi0 (k := l2) (As := [.int (Post.2 (l3 + (1 : Int32)).toNatClampNeg)]) (st := [.int r355]) C0 (c_Rm_leap l G hwp) kw_3_223 mk_Rm_leap vk_Rm_leap rfl g364 rfl (Nat.le_of_ble_eq_true rfl) rfl rfl ⟨Nat.le_trans (by decide) hR.1, Nat.le_trans (by decide) hR.2.1⟩ ⟨Nat.le_trans b364.1 hR.2.2.1, Nat.le_trans b364.2 hR.2.2.2⟩ rfl d_Lw_law_364 (fun r364 h364 hwp => ?_)
      refine x_icmp_eq (tgt := 718) C0 d_Lw_law_367 (by decide) (fun c367 => ?_) (fun c367 => ?_)
      · replace hwp := hwp.1 c367
        exact x_sub [0, 1, 2, 3] rfl (t_Lw_law_718 G C0 hR hr hlk hX hbl hb0 hK18 _ _ _ _ _ _ hwp)
      · replace hwp := hwp.2 c367
        refine x_iconst (v := 0) C0 d_Lw_law_370 (by decide) ?_
        exact hwp.elim
    by_cases c32_8 : ((Post.2 (l3).toNatClampNeg) &&& (31 : Int32)) = (8 : Int32)
    · replace hwp := hwp.2.2.2.2.2.2.2.2.1 c32_8
      refine x_tableIn (tgt := 372) (off := 340) C0 d_Lw_law_32 (by rw [c32_8]; decide) (by rw [c32_8]; decide) (by rw [c32_8]; rfl) (by decide) ?_
      refine x_aload_n C0 1 d_Lw_law_372 rfl rfl ?_
      refine x_aload_n C0 0 d_Lw_law_373 rfl rfl ?_
      refine x_iload_n C0 3 d_Lw_law_374 rfl rfl ?_
      refine x_iconst (v := 1) C0 d_Lw_law_375 (by decide) ?_
      refine x_iadd C0 d_Lw_law_376 ?_
      obtain ⟨i377, hwp⟩ := hwp
      refine x_scr C0 hX hbl hb0 i377 d_Lw_law_377 ?_
      refine x_aload_n C0 0 d_Lw_law_378 rfl rfl ?_
      refine x_iload_n C0 3 d_Lw_law_379 rfl rfl ?_
      refine x_iconst (v := 2) C0 d_Lw_law_380 (by decide) ?_
      refine x_iadd C0 d_Lw_law_381 ?_
      obtain ⟨i382, hwp⟩ := hwp
      refine x_scr C0 hX hbl hb0 i382 d_Lw_law_382 ?_
      refine x_aload_n C0 0 d_Lw_law_383 rfl rfl ?_
      refine x_iload_n C0 3 d_Lw_law_384 rfl rfl ?_
      refine x_iconst (v := 3) C0 d_Lw_law_385 (by decide) ?_
      refine x_iadd C0 d_Lw_law_386 ?_
      obtain ⟨i387, hwp⟩ := hwp
      refine x_scr C0 hX hbl hb0 i387 d_Lw_law_387 ?_
      obtain ⟨b388, hwp⟩ := hwp
      obtain ⟨g388, hwp⟩ := hwp
      refine x_callVi0 (k := l1) (As := [.int (Post.2 (l3 + (1 : Int32)).toNatClampNeg), .int (Post.2 (l3 + (2 : Int32)).toNatClampNeg), .int (Post.2 (l3 + (3 : Int32)).toNatClampNeg)]) (st := []) C0 (c_Br_given l G hwp) kw_2_106 mk_Br_given vk_Br_given rfl g388 rfl (Nat.le_of_ble_eq_true rfl) rfl rfl ⟨Nat.le_trans (by decide) hR.1, Nat.le_trans (by decide) hR.2.1⟩ ⟨Nat.le_trans b388.1 hR.2.2.1, Nat.le_trans b388.2 hR.2.2.2⟩ rfl d_Lw_law_388 (fun r388 h388 hwp => ?_)
      refine x_aload_n C0 2 d_Lw_law_391 rfl rfl ?_
      refine x_aload_n C0 0 d_Lw_law_392 rfl rfl ?_
      refine x_iload_n C0 3 d_Lw_law_393 rfl rfl ?_
      refine x_iconst (v := 1) C0 d_Lw_law_394 (by decide) ?_
      refine x_iadd C0 d_Lw_law_395 ?_
      obtain ⟨i396, hwp⟩ := hwp
      refine x_scr C0 hX hbl hb0 i396 d_Lw_law_396 ?_
      refine x_aload_n C0 0 d_Lw_law_397 rfl rfl ?_
      refine x_iload_n C0 3 d_Lw_law_398 rfl rfl ?_
      refine x_iconst (v := 2) C0 d_Lw_law_399 (by decide) ?_
      refine x_iadd C0 d_Lw_law_400 ?_
      obtain ⟨i401, hwp⟩ := hwp
      refine x_scr C0 hX hbl hb0 i401 d_Lw_law_401 ?_
      refine x_aload_n C0 0 d_Lw_law_402 rfl rfl ?_
      refine x_iload_n C0 3 d_Lw_law_403 rfl rfl ?_
      refine x_iconst (v := 3) C0 d_Lw_law_404 (by decide) ?_
      refine x_iadd C0 d_Lw_law_405 ?_
      obtain ⟨i406, hwp⟩ := hwp
      refine x_scr C0 hX hbl hb0 i406 d_Lw_law_406 ?_
      obtain ⟨b407, hwp⟩ := hwp
      obtain ⟨g407, hwp⟩ := hwp
      refine x_callVi0 (k := l2) (As := [.int (Post.2 (l3 + (1 : Int32)).toNatClampNeg), .int (Post.2 (l3 + (2 : Int32)).toNatClampNeg), .int (Post.2 (l3 + (3 : Int32)).toNatClampNeg)]) (st := [.int r388]) C0 (c_Rm_given l G hwp) kw_3_228 mk_Rm_given vk_Rm_given rfl g407 rfl (Nat.le_of_ble_eq_true rfl) rfl rfl ⟨Nat.le_trans (by decide) hR.1, Nat.le_trans (by decide) hR.2.1⟩ ⟨Nat.le_trans b407.1 hR.2.2.1, Nat.le_trans b407.2 hR.2.2.2⟩ rfl d_Lw_law_407 (fun r407 h407 hwp => ?_)
      refine x_icmp_eq (tgt := 718) C0 d_Lw_law_410 (by decide) (fun c410 => ?_) (fun c410 => ?_)
      · replace hwp := hwp.1 c410
        exact x_sub [0, 1, 2, 3] rfl (t_Lw_law_718 G C0 hR hr hlk hX hbl hb0 hK18 _ _ _ _ _ _ hwp)
      · replace hwp := hwp.2 c410
        refine x_iconst (v := 0) C0 d_Lw_law_413 (by decide) ?_
        exact hwp.elim
    by_cases c32_9 : ((Post.2 (l3).toNatClampNeg) &&& (31 : Int32)) = (9 : Int32)
    · replace hwp := hwp.2.2.2.2.2.2.2.2.2.1 c32_9
      refine x_tableIn (tgt := 415) (off := 383) C0 d_Lw_law_32 (by rw [c32_9]; decide) (by rw [c32_9]; decide) (by rw [c32_9]; rfl) (by decide) ?_
      refine x_aload_n C0 1 d_Lw_law_415 rfl rfl ?_
      refine x_aload_n C0 0 d_Lw_law_416 rfl rfl ?_
      refine x_iload_n C0 3 d_Lw_law_417 rfl rfl ?_
      refine x_iconst (v := 1) C0 d_Lw_law_418 (by decide) ?_
      refine x_iadd C0 d_Lw_law_419 ?_
      obtain ⟨i420, hwp⟩ := hwp
      refine x_scr C0 hX hbl hb0 i420 d_Lw_law_420 ?_
      obtain ⟨b421, hwp⟩ := hwp
      obtain ⟨g421, hwp⟩ := hwp
      refine x_callVi0 (k := l1) (As := [.int (Post.2 (l3 + (1 : Int32)).toNatClampNeg)]) (st := []) C0 (c_Br_bass l G hwp) kw_2_110 mk_Br_bass vk_Br_bass rfl g421 rfl (Nat.le_of_ble_eq_true rfl) rfl rfl ⟨Nat.le_trans (by decide) hR.1, Nat.le_trans (by decide) hR.2.1⟩ ⟨Nat.le_trans b421.1 hR.2.2.1, Nat.le_trans b421.2 hR.2.2.2⟩ rfl d_Lw_law_421 (fun r421 h421 hwp => ?_)
      refine x_aload_n C0 2 d_Lw_law_424 rfl rfl ?_
      refine x_aload_n C0 0 d_Lw_law_425 rfl rfl ?_
      refine x_iload_n C0 3 d_Lw_law_426 rfl rfl ?_
      refine x_iconst (v := 1) C0 d_Lw_law_427 (by decide) ?_
      refine x_iadd C0 d_Lw_law_428 ?_
      obtain ⟨i429, hwp⟩ := hwp
      refine x_scr C0 hX hbl hb0 i429 d_Lw_law_429 ?_
      obtain ⟨b430, hwp⟩ := hwp
      obtain ⟨g430, hwp⟩ := hwp
      refine x_callVi0 (k := l2) (As := [.int (Post.2 (l3 + (1 : Int32)).toNatClampNeg)]) (st := [.int r421]) C0 (c_Rm_bass l G hwp) kw_3_232 mk_Rm_bass vk_Rm_bass rfl g430 rfl (Nat.le_of_ble_eq_true rfl) rfl rfl ⟨Nat.le_trans (by decide) hR.1, Nat.le_trans (by decide) hR.2.1⟩ ⟨Nat.le_trans b430.1 hR.2.2.1, Nat.le_trans b430.2 hR.2.2.2⟩ rfl d_Lw_law_430 (fun r430 h430 hwp => ?_)
      refine x_icmp_eq (tgt := 718) C0 d_Lw_law_433 (by decide) (fun c433 => ?_) (fun c433 => ?_)
      · replace hwp := hwp.1 c433
        exact x_sub [0, 1, 2, 3] rfl (t_Lw_law_718 G C0 hR hr hlk hX hbl hb0 hK18 _ _ _ _ _ _ hwp)
      · replace hwp := hwp.2 c433
        refine x_iconst (v := 0) C0 d_Lw_law_436 (by decide) ?_
        exact hwp.elim
    by_cases c32_10 : ((Post.2 (l3).toNatClampNeg) &&& (31 : Int32)) = (10 : Int32)
    · replace hwp := hwp.2.2.2.2.2.2.2.2.2.2.1 c32_10
      refine x_tableIn (tgt := 438) (off := 406) C0 d_Lw_law_32 (by rw [c32_10]; decide) (by rw [c32_10]; decide) (by rw [c32_10]; rfl) (by decide) ?_
      refine x_aload_n C0 1 d_Lw_law_438 rfl rfl ?_
      refine x_aload_n C0 0 d_Lw_law_439 rfl rfl ?_
      refine x_iload_n C0 3 d_Lw_law_440 rfl rfl ?_
      refine x_iconst (v := 1) C0 d_Lw_law_441 (by decide) ?_
      refine x_iadd C0 d_Lw_law_442 ?_
      obtain ⟨i443, hwp⟩ := hwp
      refine x_scr C0 hX hbl hb0 i443 d_Lw_law_443 ?_
      refine x_aload_n C0 0 d_Lw_law_444 rfl rfl ?_
      refine x_iload_n C0 3 d_Lw_law_445 rfl rfl ?_
      refine x_iconst (v := 2) C0 d_Lw_law_446 (by decide) ?_
      refine x_iadd C0 d_Lw_law_447 ?_
      obtain ⟨i448, hwp⟩ := hwp
      refine x_scr C0 hX hbl hb0 i448 d_Lw_law_448 ?_
      refine x_aload_n C0 0 d_Lw_law_449 rfl rfl ?_
      refine x_iload_n C0 3 d_Lw_law_450 rfl rfl ?_
      refine x_iconst (v := 3) C0 d_Lw_law_451 (by decide) ?_
      refine x_iadd C0 d_Lw_law_452 ?_
      obtain ⟨i453, hwp⟩ := hwp
      refine x_scr C0 hX hbl hb0 i453 d_Lw_law_453 ?_
      obtain ⟨b454, hwp⟩ := hwp
      obtain ⟨g454, hwp⟩ := hwp
      refine x_callVi0 (k := l1) (As := [.int (Post.2 (l3 + (1 : Int32)).toNatClampNeg), .int (Post.2 (l3 + (2 : Int32)).toNatClampNeg), .int (Post.2 (l3 + (3 : Int32)).toNatClampNeg)]) (st := []) C0 (c_Br_worked l G hwp) kw_2_114 mk_Br_worked vk_Br_worked rfl g454 rfl (Nat.le_of_ble_eq_true rfl) rfl rfl ⟨Nat.le_trans (by decide) hR.1, Nat.le_trans (by decide) hR.2.1⟩ ⟨Nat.le_trans b454.1 hR.2.2.1, Nat.le_trans b454.2 hR.2.2.2⟩ rfl d_Lw_law_454 (fun r454 h454 hwp => ?_)
      refine x_aload_n C0 2 d_Lw_law_457 rfl rfl ?_
      refine x_aload_n C0 0 d_Lw_law_458 rfl rfl ?_
      refine x_iload_n C0 3 d_Lw_law_459 rfl rfl ?_
      refine x_iconst (v := 1) C0 d_Lw_law_460 (by decide) ?_
      refine x_iadd C0 d_Lw_law_461 ?_
      obtain ⟨i462, hwp⟩ := hwp
      refine x_scr C0 hX hbl hb0 i462 d_Lw_law_462 ?_
      refine x_aload_n C0 0 d_Lw_law_463 rfl rfl ?_
      refine x_iload_n C0 3 d_Lw_law_464 rfl rfl ?_
      refine x_iconst (v := 2) C0 d_Lw_law_465 (by decide) ?_
      refine x_iadd C0 d_Lw_law_466 ?_
      obtain ⟨i467, hwp⟩ := hwp
      refine x_scr C0 hX hbl hb0 i467 d_Lw_law_467 ?_
      refine x_aload_n C0 0 d_Lw_law_468 rfl rfl ?_
      refine x_iload_n C0 3 d_Lw_law_469 rfl rfl ?_
      refine x_iconst (v := 3) C0 d_Lw_law_470 (by decide) ?_
      refine x_iadd C0 d_Lw_law_471 ?_
      obtain ⟨i472, hwp⟩ := hwp
      refine x_scr C0 hX hbl hb0 i472 d_Lw_law_472 ?_
      obtain ⟨b473, hwp⟩ := hwp
      obtain ⟨g473, hwp⟩ := hwp
      refine x_callVi0 (k := l2) (As := [.int (Post.2 (l3 + (1 : Int32)).toNatClampNeg), .int (Post.2 (l3 + (2 : Int32)).toNatClampNeg), .int (Post.2 (l3 + (3 : Int32)).toNatClampNeg)]) (st := [.int r454]) C0 (c_Rm_worked l G hwp) kw_4_3 mk_Rm_worked vk_Rm_worked rfl g473 rfl (Nat.le_of_ble_eq_true rfl) rfl rfl ⟨Nat.le_trans (by decide) hR.1, Nat.le_trans (by decide) hR.2.1⟩ ⟨Nat.le_trans b473.1 hR.2.2.1, Nat.le_trans b473.2 hR.2.2.2⟩ rfl d_Lw_law_473 (fun r473 h473 hwp => ?_)
      refine x_icmp_eq (tgt := 718) C0 d_Lw_law_476 (by decide) (fun c476 => ?_) (fun c476 => ?_)
      · replace hwp := hwp.1 c476
        exact x_sub [0, 1, 2, 3] rfl (t_Lw_law_718 G C0 hR hr hlk hX hbl hb0 hK18 _ _ _ _ _ _ hwp)
      · replace hwp := hwp.2 c476
        refine x_iconst (v := 0) C0 d_Lw_law_479 (by decide) ?_
        exact hwp.elim
    by_cases c32_11 : ((Post.2 (l3).toNatClampNeg) &&& (31 : Int32)) = (11 : Int32)
    · replace hwp := hwp.2.2.2.2.2.2.2.2.2.2.2.1 c32_11
      refine x_tableIn (tgt := 481) (off := 449) C0 d_Lw_law_32 (by rw [c32_11]; decide) (by rw [c32_11]; decide) (by rw [c32_11]; rfl) (by decide) ?_
      refine x_aload_n C0 1 d_Lw_law_481 rfl rfl ?_
      refine x_aload_n C0 0 d_Lw_law_482 rfl rfl ?_
      refine x_iload_n C0 3 d_Lw_law_483 rfl rfl ?_
      refine x_iconst (v := 1) C0 d_Lw_law_484 (by decide) ?_
      refine x_iadd C0 d_Lw_law_485 ?_
      obtain ⟨i486, hwp⟩ := hwp
      refine x_scr C0 hX hbl hb0 i486 d_Lw_law_486 ?_
      obtain ⟨b487, hwp⟩ := hwp
      obtain ⟨g487, hwp⟩ := hwp
      refine x_callVi0 (k := l1) (As := [.int (Post.2 (l3 + (1 : Int32)).toNatClampNeg)]) (st := []) C0 (c_Br_voicings l G hwp) kw_2_126 mk_Br_voicings vk_Br_voicings rfl g487 rfl (Nat.le_of_ble_eq_true rfl) rfl rfl ⟨Nat.le_trans (by decide) hR.1, Nat.le_trans (by decide) hR.2.1⟩ ⟨Nat.le_trans b487.1 hR.2.2.1, Nat.le_trans b487.2 hR.2.2.2⟩ rfl d_Lw_law_487 (fun r487 h487 hwp => ?_)
      refine x_aload_n C0 2 d_Lw_law_490 rfl rfl ?_
      refine x_aload_n C0 0 d_Lw_law_491 rfl rfl ?_
      refine x_iload_n C0 3 d_Lw_law_492 rfl rfl ?_
      refine x_iconst (v := 1) C0 d_Lw_law_493 (by decide) ?_
      refine x_iadd C0 d_Lw_law_494 ?_
      obtain ⟨i495, hwp⟩ := hwp
      refine x_scr C0 hX hbl hb0 i495 d_Lw_law_495 ?_
      obtain ⟨b496, hwp⟩ := hwp
      obtain ⟨g496, hwp⟩ := hwp
      refine x_callVi0 (k := l2) (As := [.int (Post.2 (l3 + (1 : Int32)).toNatClampNeg)]) (st := [.int r487]) C0 (c_Rm_voicings l G hwp) kw_4_34 mk_Rm_voicings vk_Rm_voicings rfl g496 rfl (Nat.le_of_ble_eq_true rfl) rfl rfl ⟨Nat.le_trans (by decide) hR.1, Nat.le_trans (by decide) hR.2.1⟩ ⟨Nat.le_trans b496.1 hR.2.2.1, Nat.le_trans b496.2 hR.2.2.2⟩ rfl d_Lw_law_496 (fun r496 h496 hwp => ?_)
      refine x_icmp_eq (tgt := 718) C0 d_Lw_law_499 (by decide) (fun c499 => ?_) (fun c499 => ?_)
      · replace hwp := hwp.1 c499
        exact x_sub [0, 1, 2, 3] rfl (t_Lw_law_718 G C0 hR hr hlk hX hbl hb0 hK18 _ _ _ _ _ _ hwp)
      · replace hwp := hwp.2 c499
        refine x_iconst (v := 0) C0 d_Lw_law_502 (by decide) ?_
        exact hwp.elim
    by_cases c32_12 : ((Post.2 (l3).toNatClampNeg) &&& (31 : Int32)) = (12 : Int32)
    · replace hwp := hwp.2.2.2.2.2.2.2.2.2.2.2.2.1 c32_12
      refine x_tableIn (tgt := 504) (off := 472) C0 d_Lw_law_32 (by rw [c32_12]; decide) (by rw [c32_12]; decide) (by rw [c32_12]; rfl) (by decide) ?_
      refine x_aload_n C0 1 d_Lw_law_504 rfl rfl ?_
      refine x_aload_n C0 0 d_Lw_law_505 rfl rfl ?_
      refine x_iload_n C0 3 d_Lw_law_506 rfl rfl ?_
      refine x_iconst (v := 1) C0 d_Lw_law_507 (by decide) ?_
      refine x_iadd C0 d_Lw_law_508 ?_
      obtain ⟨i509, hwp⟩ := hwp
      refine x_scr C0 hX hbl hb0 i509 d_Lw_law_509 ?_
      refine x_aload_n C0 0 d_Lw_law_510 rfl rfl ?_
      refine x_iload_n C0 3 d_Lw_law_511 rfl rfl ?_
      refine x_iconst (v := 2) C0 d_Lw_law_512 (by decide) ?_
      refine x_iadd C0 d_Lw_law_513 ?_
      obtain ⟨i514, hwp⟩ := hwp
      refine x_scr C0 hX hbl hb0 i514 d_Lw_law_514 ?_
      refine x_aload_n C0 0 d_Lw_law_515 rfl rfl ?_
      refine x_iload_n C0 3 d_Lw_law_516 rfl rfl ?_
      refine x_iconst (v := 3) C0 d_Lw_law_517 (by decide) ?_
      refine x_iadd C0 d_Lw_law_518 ?_
      obtain ⟨i519, hwp⟩ := hwp
      refine x_scr C0 hX hbl hb0 i519 d_Lw_law_519 ?_
      obtain ⟨b520, hwp⟩ := hwp
      obtain ⟨g520, hwp⟩ := hwp
      refine x_callVi0 (k := l1) (As := [.int (Post.2 (l3 + (1 : Int32)).toNatClampNeg), .int (Post.2 (l3 + (2 : Int32)).toNatClampNeg), .int (Post.2 (l3 + (3 : Int32)).toNatClampNeg)]) (st := []) C0 (c_Br_voicing l G hwp) kw_2_174 mk_Br_voicing vk_Br_voicing rfl g520 rfl (Nat.le_of_ble_eq_true rfl) rfl rfl ⟨Nat.le_trans (by decide) hR.1, Nat.le_trans (by decide) hR.2.1⟩ ⟨Nat.le_trans b520.1 hR.2.2.1, Nat.le_trans b520.2 hR.2.2.2⟩ rfl d_Lw_law_520 (fun r520 h520 hwp => ?_)
      refine x_aload_n C0 2 d_Lw_law_523 rfl rfl ?_
      refine x_aload_n C0 0 d_Lw_law_524 rfl rfl ?_
      refine x_iload_n C0 3 d_Lw_law_525 rfl rfl ?_
      refine x_iconst (v := 1) C0 d_Lw_law_526 (by decide) ?_
      refine x_iadd C0 d_Lw_law_527 ?_
      obtain ⟨i528, hwp⟩ := hwp
      refine x_scr C0 hX hbl hb0 i528 d_Lw_law_528 ?_
      refine x_aload_n C0 0 d_Lw_law_529 rfl rfl ?_
      refine x_iload_n C0 3 d_Lw_law_530 rfl rfl ?_
      refine x_iconst (v := 2) C0 d_Lw_law_531 (by decide) ?_
      refine x_iadd C0 d_Lw_law_532 ?_
      obtain ⟨i533, hwp⟩ := hwp
      refine x_scr C0 hX hbl hb0 i533 d_Lw_law_533 ?_
      refine x_aload_n C0 0 d_Lw_law_534 rfl rfl ?_
      refine x_iload_n C0 3 d_Lw_law_535 rfl rfl ?_
      refine x_iconst (v := 3) C0 d_Lw_law_536 (by decide) ?_
      refine x_iadd C0 d_Lw_law_537 ?_
      obtain ⟨i538, hwp⟩ := hwp
      refine x_scr C0 hX hbl hb0 i538 d_Lw_law_538 ?_
      obtain ⟨b539, hwp⟩ := hwp
      obtain ⟨g539, hwp⟩ := hwp
      refine x_callVi0 (k := l2) (As := [.int (Post.2 (l3 + (1 : Int32)).toNatClampNeg), .int (Post.2 (l3 + (2 : Int32)).toNatClampNeg), .int (Post.2 (l3 + (3 : Int32)).toNatClampNeg)]) (st := [.int r520]) C0 (c_Rm_voicing l G hwp) kw_4_86 mk_Rm_voicing vk_Rm_voicing rfl g539 rfl (Nat.le_of_ble_eq_true rfl) rfl rfl ⟨Nat.le_trans (by decide) hR.1, Nat.le_trans (by decide) hR.2.1⟩ ⟨Nat.le_trans b539.1 hR.2.2.1, Nat.le_trans b539.2 hR.2.2.2⟩ rfl d_Lw_law_539 (fun r539 h539 hwp => ?_)
      refine x_icmp_eq (tgt := 718) C0 d_Lw_law_542 (by decide) (fun c542 => ?_) (fun c542 => ?_)
      · replace hwp := hwp.1 c542
        exact x_sub [0, 1, 2, 3] rfl (t_Lw_law_718 G C0 hR hr hlk hX hbl hb0 hK18 _ _ _ _ _ _ hwp)
      · replace hwp := hwp.2 c542
        refine x_iconst (v := 0) C0 d_Lw_law_545 (by decide) ?_
        exact hwp.elim
    by_cases c32_13 : ((Post.2 (l3).toNatClampNeg) &&& (31 : Int32)) = (13 : Int32)
    · replace hwp := hwp.2.2.2.2.2.2.2.2.2.2.2.2.2.1 c32_13
      refine x_tableIn (tgt := 547) (off := 515) C0 d_Lw_law_32 (by rw [c32_13]; decide) (by rw [c32_13]; decide) (by rw [c32_13]; rfl) (by decide) ?_
      refine x_aload_n C0 1 d_Lw_law_547 rfl rfl ?_
      obtain ⟨b548, hwp⟩ := hwp
      obtain ⟨g548, hwp⟩ := hwp
      refine x_callVi0 (k := l1) (As := []) (st := []) C0 (c_Br_solve l G hwp) kw_2_179 mk_Br_solve vk_Br_solve rfl g548 rfl (Nat.le_of_ble_eq_true rfl) rfl rfl ⟨Nat.le_trans (by decide) hR.1, Nat.le_trans (by decide) hR.2.1⟩ ⟨Nat.le_trans b548.1 hR.2.2.1, Nat.le_trans b548.2 hR.2.2.2⟩ rfl d_Lw_law_548 (fun r548 h548 hwp => ?_)
      refine x_aload_n C0 2 d_Lw_law_551 rfl rfl ?_
      obtain ⟨b552, hwp⟩ := hwp
      obtain ⟨g552, hwp⟩ := hwp
      refine x_callVi0 (k := l2) (As := []) (st := [.int r548]) C0 (c_Rm_solve l G hwp) kw_4_90 mk_Rm_solve vk_Rm_solve rfl g552 rfl (Nat.le_of_ble_eq_true rfl) rfl rfl ⟨Nat.le_trans (by decide) hR.1, Nat.le_trans (by decide) hR.2.1⟩ ⟨Nat.le_trans b552.1 hR.2.2.1, Nat.le_trans b552.2 hR.2.2.2⟩ rfl d_Lw_law_552 (fun r552 h552 hwp => ?_)
      refine x_icmp_eq (tgt := 718) C0 d_Lw_law_555 (by decide) (fun c555 => ?_) (fun c555 => ?_)
      · replace hwp := hwp.1 c555
        exact x_sub [0, 1, 2, 3] rfl (t_Lw_law_718 G C0 hR hr hlk hX hbl hb0 hK18 _ _ _ _ _ _ hwp)
      · replace hwp := hwp.2 c555
        refine x_iconst (v := 0) C0 d_Lw_law_558 (by decide) ?_
        exact hwp.elim
    by_cases c32_14 : ((Post.2 (l3).toNatClampNeg) &&& (31 : Int32)) = (14 : Int32)
    · replace hwp := hwp.2.2.2.2.2.2.2.2.2.2.2.2.2.2.1 c32_14
      refine x_tableIn (tgt := 560) (off := 528) C0 d_Lw_law_32 (by rw [c32_14]; decide) (by rw [c32_14]; decide) (by rw [c32_14]; rfl) (by decide) ?_
      refine x_aload_n C0 1 d_Lw_law_560 rfl rfl ?_
      refine x_aload_n C0 0 d_Lw_law_561 rfl rfl ?_
      refine x_iload_n C0 3 d_Lw_law_562 rfl rfl ?_
      refine x_iconst (v := 1) C0 d_Lw_law_563 (by decide) ?_
      refine x_iadd C0 d_Lw_law_564 ?_
      obtain ⟨i565, hwp⟩ := hwp
      refine x_scr C0 hX hbl hb0 i565 d_Lw_law_565 ?_
      refine x_aload_n C0 0 d_Lw_law_566 rfl rfl ?_
      refine x_iload_n C0 3 d_Lw_law_567 rfl rfl ?_
      refine x_iconst (v := 2) C0 d_Lw_law_568 (by decide) ?_
      refine x_iadd C0 d_Lw_law_569 ?_
      obtain ⟨i570, hwp⟩ := hwp
      refine x_scr C0 hX hbl hb0 i570 d_Lw_law_570 ?_
      obtain ⟨b571, hwp⟩ := hwp
      obtain ⟨g571, hwp⟩ := hwp
      refine x_callVi0 (k := l1) (As := [.int (Post.2 (l3 + (1 : Int32)).toNatClampNeg), .int (Post.2 (l3 + (2 : Int32)).toNatClampNeg)]) (st := []) C0 (c_Br_note l G hwp) kw_3_29 mk_Br_note vk_Br_note rfl g571 rfl (Nat.le_of_ble_eq_true rfl) rfl rfl ⟨Nat.le_trans (by decide) hR.1, Nat.le_trans (by decide) hR.2.1⟩ ⟨Nat.le_trans b571.1 hR.2.2.1, Nat.le_trans b571.2 hR.2.2.2⟩ rfl d_Lw_law_571 (fun r571 h571 hwp => ?_)
      refine x_aload_n C0 2 d_Lw_law_574 rfl rfl ?_
      refine x_aload_n C0 0 d_Lw_law_575 rfl rfl ?_
      refine x_iload_n C0 3 d_Lw_law_576 rfl rfl ?_
      refine x_iconst (v := 1) C0 d_Lw_law_577 (by decide) ?_
      refine x_iadd C0 d_Lw_law_578 ?_
      obtain ⟨i579, hwp⟩ := hwp
      refine x_scr C0 hX hbl hb0 i579 d_Lw_law_579 ?_
      refine x_aload_n C0 0 d_Lw_law_580 rfl rfl ?_
      refine x_iload_n C0 3 d_Lw_law_581 rfl rfl ?_
      refine x_iconst (v := 2) C0 d_Lw_law_582 (by decide) ?_
      refine x_iadd C0 d_Lw_law_583 ?_
      obtain ⟨i584, hwp⟩ := hwp
      refine x_scr C0 hX hbl hb0 i584 d_Lw_law_584 ?_
      obtain ⟨b585, hwp⟩ := hwp
      obtain ⟨g585, hwp⟩ := hwp
      refine x_callVi0 (k := l2) (As := [.int (Post.2 (l3 + (1 : Int32)).toNatClampNeg), .int (Post.2 (l3 + (2 : Int32)).toNatClampNeg)]) (st := [.int r571]) C0 (c_Rm_note l G hwp) kw_4_98 mk_Rm_note vk_Rm_note rfl g585 rfl (Nat.le_of_ble_eq_true rfl) rfl rfl ⟨Nat.le_trans (by decide) hR.1, Nat.le_trans (by decide) hR.2.1⟩ ⟨Nat.le_trans b585.1 hR.2.2.1, Nat.le_trans b585.2 hR.2.2.2⟩ rfl d_Lw_law_585 (fun r585 h585 hwp => ?_)
      refine x_icmp_eq (tgt := 718) C0 d_Lw_law_588 (by decide) (fun c588 => ?_) (fun c588 => ?_)
      · replace hwp := hwp.1 c588
        exact x_sub [0, 1, 2, 3] rfl (t_Lw_law_718 G C0 hR hr hlk hX hbl hb0 hK18 _ _ _ _ _ _ hwp)
      · replace hwp := hwp.2 c588
        refine x_iconst (v := 0) C0 d_Lw_law_591 (by decide) ?_
        exact hwp.elim
    by_cases c32_15 : ((Post.2 (l3).toNatClampNeg) &&& (31 : Int32)) = (15 : Int32)
    · replace hwp := hwp.2.2.2.2.2.2.2.2.2.2.2.2.2.2.2.1 c32_15
      refine x_tableIn (tgt := 593) (off := 561) C0 d_Lw_law_32 (by rw [c32_15]; decide) (by rw [c32_15]; decide) (by rw [c32_15]; rfl) (by decide) ?_
      refine x_aload_n C0 1 d_Lw_law_593 rfl rfl ?_
      obtain ⟨b594, hwp⟩ := hwp
      obtain ⟨g594, hwp⟩ := hwp
      refine x_callVi0 (k := l1) (As := []) (st := []) C0 (c_Br_many l G hwp) kw_3_33 mk_Br_many vk_Br_many rfl g594 rfl (Nat.le_of_ble_eq_true rfl) rfl rfl ⟨Nat.le_trans (by decide) hR.1, Nat.le_trans (by decide) hR.2.1⟩ ⟨Nat.le_trans b594.1 hR.2.2.1, Nat.le_trans b594.2 hR.2.2.2⟩ rfl d_Lw_law_594 (fun r594 h594 hwp => ?_)
      refine x_aload_n C0 2 d_Lw_law_597 rfl rfl ?_
      obtain ⟨b598, hwp⟩ := hwp
      obtain ⟨g598, hwp⟩ := hwp
      refine x_callVi0 (k := l2) (As := []) (st := [.int r594]) C0 (c_Rm_many_0 l G hwp) kw_4_102 mk_Rm_many_0 vk_Rm_many_0 rfl g598 rfl (Nat.le_of_ble_eq_true rfl) rfl rfl ⟨Nat.le_trans (by decide) hR.1, Nat.le_trans (by decide) hR.2.1⟩ ⟨Nat.le_trans b598.1 hR.2.2.1, Nat.le_trans b598.2 hR.2.2.2⟩ rfl d_Lw_law_598 (fun r598 h598 hwp => ?_)
      refine x_icmp_eq (tgt := 718) C0 d_Lw_law_601 (by decide) (fun c601 => ?_) (fun c601 => ?_)
      · replace hwp := hwp.1 c601
        exact x_sub [0, 1, 2, 3] rfl (t_Lw_law_718 G C0 hR hr hlk hX hbl hb0 hK18 _ _ _ _ _ _ hwp)
      · replace hwp := hwp.2 c601
        refine x_iconst (v := 0) C0 d_Lw_law_604 (by decide) ?_
        exact hwp.elim
    by_cases c32_16 : ((Post.2 (l3).toNatClampNeg) &&& (31 : Int32)) = (16 : Int32)
    · replace hwp := hwp.2.2.2.2.2.2.2.2.2.2.2.2.2.2.2.2.1 c32_16
      refine x_tableIn (tgt := 606) (off := 574) C0 d_Lw_law_32 (by rw [c32_16]; decide) (by rw [c32_16]; decide) (by rw [c32_16]; rfl) (by decide) ?_
      refine x_aload_n C0 1 d_Lw_law_606 rfl rfl ?_
      refine x_aload_n C0 0 d_Lw_law_607 rfl rfl ?_
      refine x_iload_n C0 3 d_Lw_law_608 rfl rfl ?_
      refine x_iconst (v := 1) C0 d_Lw_law_609 (by decide) ?_
      refine x_iadd C0 d_Lw_law_610 ?_
      obtain ⟨i611, hwp⟩ := hwp
      refine x_scr C0 hX hbl hb0 i611 d_Lw_law_611 ?_
      refine x_aload_n C0 0 d_Lw_law_612 rfl rfl ?_
      refine x_iload_n C0 3 d_Lw_law_613 rfl rfl ?_
      refine x_iconst (v := 2) C0 d_Lw_law_614 (by decide) ?_
      refine x_iadd C0 d_Lw_law_615 ?_
      obtain ⟨i616, hwp⟩ := hwp
      refine x_scr C0 hX hbl hb0 i616 d_Lw_law_616 ?_
      refine x_aload_n C0 0 d_Lw_law_617 rfl rfl ?_
      refine x_iload_n C0 3 d_Lw_law_618 rfl rfl ?_
      refine x_iconst (v := 3) C0 d_Lw_law_619 (by decide) ?_
      refine x_iadd C0 d_Lw_law_620 ?_
      obtain ⟨i621, hwp⟩ := hwp
      refine x_scr C0 hX hbl hb0 i621 d_Lw_law_621 ?_
      refine x_aload_n C0 0 d_Lw_law_622 rfl rfl ?_
      refine x_iload_n C0 3 d_Lw_law_623 rfl rfl ?_
      refine x_iconst (v := 4) C0 d_Lw_law_624 (by decide) ?_
      refine x_iadd C0 d_Lw_law_625 ?_
      obtain ⟨i626, hwp⟩ := hwp
      refine x_scr C0 hX hbl hb0 i626 d_Lw_law_626 ?_
      obtain ⟨b627, hwp⟩ := hwp
      obtain ⟨g627, hwp⟩ := hwp
      refine x_callVi0 (k := l1) (As := [.int (Post.2 (l3 + (1 : Int32)).toNatClampNeg), .int (Post.2 (l3 + (2 : Int32)).toNatClampNeg), .int (Post.2 (l3 + (3 : Int32)).toNatClampNeg), .int (Post.2 (l3 + (4 : Int32)).toNatClampNeg)]) (st := []) C0 (c_Br_sing l G hwp) kw_3_37 mk_Br_sing vk_Br_sing rfl g627 rfl (Nat.le_of_ble_eq_true rfl) rfl rfl ⟨Nat.le_trans (by decide) hR.1, Nat.le_trans (by decide) hR.2.1⟩ ⟨Nat.le_trans b627.1 hR.2.2.1, Nat.le_trans b627.2 hR.2.2.2⟩ rfl d_Lw_law_627 (fun r627 h627 hwp => ?_)
      refine x_aload_n C0 2 d_Lw_law_630 rfl rfl ?_
      refine x_aload_n C0 0 d_Lw_law_631 rfl rfl ?_
      refine x_iload_n C0 3 d_Lw_law_632 rfl rfl ?_
      refine x_iconst (v := 1) C0 d_Lw_law_633 (by decide) ?_
      refine x_iadd C0 d_Lw_law_634 ?_
      obtain ⟨i635, hwp⟩ := hwp
      refine x_scr C0 hX hbl hb0 i635 d_Lw_law_635 ?_
      refine x_aload_n C0 0 d_Lw_law_636 rfl rfl ?_
      refine x_iload_n C0 3 d_Lw_law_637 rfl rfl ?_
      refine x_iconst (v := 2) C0 d_Lw_law_638 (by decide) ?_
      refine x_iadd C0 d_Lw_law_639 ?_
      obtain ⟨i640, hwp⟩ := hwp
      refine x_scr C0 hX hbl hb0 i640 d_Lw_law_640 ?_
      refine x_aload_n C0 0 d_Lw_law_641 rfl rfl ?_
      refine x_iload_n C0 3 d_Lw_law_642 rfl rfl ?_
      refine x_iconst (v := 3) C0 d_Lw_law_643 (by decide) ?_
      refine x_iadd C0 d_Lw_law_644 ?_
      obtain ⟨i645, hwp⟩ := hwp
      refine x_scr C0 hX hbl hb0 i645 d_Lw_law_645 ?_
      refine x_aload_n C0 0 d_Lw_law_646 rfl rfl ?_
      refine x_iload_n C0 3 d_Lw_law_647 rfl rfl ?_
      refine x_iconst (v := 4) C0 d_Lw_law_648 (by decide) ?_
      refine x_iadd C0 d_Lw_law_649 ?_
      obtain ⟨i650, hwp⟩ := hwp
      refine x_scr C0 hX hbl hb0 i650 d_Lw_law_650 ?_
      obtain ⟨b651, hwp⟩ := hwp
      obtain ⟨g651, hwp⟩ := hwp
      refine x_callVi0 (k := l2) (As := [.int (Post.2 (l3 + (1 : Int32)).toNatClampNeg), .int (Post.2 (l3 + (2 : Int32)).toNatClampNeg), .int (Post.2 (l3 + (3 : Int32)).toNatClampNeg), .int (Post.2 (l3 + (4 : Int32)).toNatClampNeg)]) (st := [.int r627]) C0 (c_Rm_sing l G hwp) kw_4_107 mk_Rm_sing vk_Rm_sing rfl g651 rfl (Nat.le_of_ble_eq_true rfl) rfl rfl ⟨Nat.le_trans (by decide) hR.1, Nat.le_trans (by decide) hR.2.1⟩ ⟨Nat.le_trans b651.1 hR.2.2.1, Nat.le_trans b651.2 hR.2.2.2⟩ rfl d_Lw_law_651 (fun r651 h651 hwp => ?_)
      refine x_icmp_eq (tgt := 718) C0 d_Lw_law_654 (by decide) (fun c654 => ?_) (fun c654 => ?_)
      · replace hwp := hwp.1 c654
        exact x_sub [0, 1, 2, 3] rfl (t_Lw_law_718 G C0 hR hr hlk hX hbl hb0 hK18 _ _ _ _ _ _ hwp)
      · replace hwp := hwp.2 c654
        refine x_iconst (v := 0) C0 d_Lw_law_657 (by decide) ?_
        exact hwp.elim
    by_cases c32_17 : ((Post.2 (l3).toNatClampNeg) &&& (31 : Int32)) = (17 : Int32)
    · replace hwp := hwp.2.2.2.2.2.2.2.2.2.2.2.2.2.2.2.2.2.1 c32_17
      refine x_tableIn (tgt := 659) (off := 627) C0 d_Lw_law_32 (by rw [c32_17]; decide) (by rw [c32_17]; decide) (by rw [c32_17]; rfl) (by decide) ?_
      refine x_aload_n C0 1 d_Lw_law_659 rfl rfl ?_
      refine x_aload_n C0 0 d_Lw_law_660 rfl rfl ?_
      refine x_iload_n C0 3 d_Lw_law_661 rfl rfl ?_
      refine x_iconst (v := 1) C0 d_Lw_law_662 (by decide) ?_
      refine x_iadd C0 d_Lw_law_663 ?_
      obtain ⟨i664, hwp⟩ := hwp
      refine x_scr C0 hX hbl hb0 i664 d_Lw_law_664 ?_
      obtain ⟨b665, hwp⟩ := hwp
      obtain ⟨g665, hwp⟩ := hwp
      refine x_callVi0 (k := l1) (As := [.int (Post.2 (l3 + (1 : Int32)).toNatClampNeg)]) (st := []) C0 (c_Br_fault l G hwp) kw_3_42 mk_Br_fault vk_Br_fault rfl g665 rfl (Nat.le_of_ble_eq_true rfl) rfl rfl ⟨Nat.le_trans (by decide) hR.1, Nat.le_trans (by decide) hR.2.1⟩ ⟨Nat.le_trans b665.1 hR.2.2.1, Nat.le_trans b665.2 hR.2.2.2⟩ rfl d_Lw_law_665 (fun r665 h665 hwp => ?_)
      refine x_aload_n C0 2 d_Lw_law_668 rfl rfl ?_
      refine x_aload_n C0 0 d_Lw_law_669 rfl rfl ?_
      refine x_iload_n C0 3 d_Lw_law_670 rfl rfl ?_
      refine x_iconst (v := 1) C0 d_Lw_law_671 (by decide) ?_
      refine x_iadd C0 d_Lw_law_672 ?_
      obtain ⟨i673, hwp⟩ := hwp
      refine x_scr C0 hX hbl hb0 i673 d_Lw_law_673 ?_
      obtain ⟨b674, hwp⟩ := hwp
      obtain ⟨g674, hwp⟩ := hwp
      refine x_callVi0 (k := l2) (As := [.int (Post.2 (l3 + (1 : Int32)).toNatClampNeg)]) (st := [.int r665]) C0 (c_Rm_fault l G hwp) kw_4_111 mk_Rm_fault vk_Rm_fault rfl g674 rfl (Nat.le_of_ble_eq_true rfl) rfl rfl ⟨Nat.le_trans (by decide) hR.1, Nat.le_trans (by decide) hR.2.1⟩ ⟨Nat.le_trans b674.1 hR.2.2.1, Nat.le_trans b674.2 hR.2.2.2⟩ rfl d_Lw_law_674 (fun r674 h674 hwp => ?_)
      refine x_icmp_eq (tgt := 718) C0 d_Lw_law_677 (by decide) (fun c677 => ?_) (fun c677 => ?_)
      · replace hwp := hwp.1 c677
        exact x_sub [0, 1, 2, 3] rfl (t_Lw_law_718 G C0 hR hr hlk hX hbl hb0 hK18 _ _ _ _ _ _ hwp)
      · replace hwp := hwp.2 c677
        refine x_iconst (v := 0) C0 d_Lw_law_680 (by decide) ?_
        exact hwp.elim
    by_cases c32_18 : ((Post.2 (l3).toNatClampNeg) &&& (31 : Int32)) = (18 : Int32)
    · replace hwp := hwp.2.2.2.2.2.2.2.2.2.2.2.2.2.2.2.2.2.2.1 c32_18
      refine x_tableIn (tgt := 682) (off := 650) C0 d_Lw_law_32 (by rw [c32_18]; decide) (by rw [c32_18]; decide) (by rw [c32_18]; rfl) (by decide) ?_
      refine x_aload_n C0 1 d_Lw_law_682 rfl rfl ?_
      obtain ⟨b683, hwp⟩ := hwp
      obtain ⟨g683, hwp⟩ := hwp
      refine x_callVi0 (k := l1) (As := []) (st := []) C0 (c_Br_sung l G hwp) kw_3_59 mk_Br_sung vk_Br_sung rfl g683 rfl (Nat.le_of_ble_eq_true rfl) rfl rfl ⟨Nat.le_trans (by decide) hR.1, Nat.le_trans (by decide) hR.2.1⟩ ⟨Nat.le_trans b683.1 hR.2.2.1, Nat.le_trans b683.2 hR.2.2.2⟩ rfl d_Lw_law_683 (fun r683 h683 hwp => ?_)
      refine x_aload_n C0 2 d_Lw_law_686 rfl rfl ?_
      obtain ⟨b687, hwp⟩ := hwp
      obtain ⟨g687, hwp⟩ := hwp
      refine x_callVi0 (k := l2) (As := []) (st := [.int r683]) C0 (c_Rm_sung l G hwp) kw_4_123 mk_Rm_sung vk_Rm_sung rfl g687 rfl (Nat.le_of_ble_eq_true rfl) rfl rfl ⟨Nat.le_trans (by decide) hR.1, Nat.le_trans (by decide) hR.2.1⟩ ⟨Nat.le_trans b687.1 hR.2.2.1, Nat.le_trans b687.2 hR.2.2.2⟩ rfl d_Lw_law_687 (fun r687 h687 hwp => ?_)
      refine x_icmp_eq (tgt := 718) C0 d_Lw_law_690 (by decide) (fun c690 => ?_) (fun c690 => ?_)
      · replace hwp := hwp.1 c690
        exact x_sub [0, 1, 2, 3] rfl (t_Lw_law_718 G C0 hR hr hlk hX hbl hb0 hK18 _ _ _ _ _ _ hwp)
      · replace hwp := hwp.2 c690
        refine x_iconst (v := 0) C0 d_Lw_law_693 (by decide) ?_
        exact hwp.elim
    by_cases c32_19 : ((Post.2 (l3).toNatClampNeg) &&& (31 : Int32)) = (19 : Int32)
    · replace hwp := hwp.2.2.2.2.2.2.2.2.2.2.2.2.2.2.2.2.2.2.2.1 c32_19
      refine x_tableIn (tgt := 695) (off := 663) C0 d_Lw_law_32 (by rw [c32_19]; decide) (by rw [c32_19]; decide) (by rw [c32_19]; rfl) (by decide) ?_
      refine x_aload_n C0 1 d_Lw_law_695 rfl rfl ?_
      refine x_aload_n C0 0 d_Lw_law_696 rfl rfl ?_
      refine x_iload_n C0 3 d_Lw_law_697 rfl rfl ?_
      refine x_iconst (v := 1) C0 d_Lw_law_698 (by decide) ?_
      refine x_iadd C0 d_Lw_law_699 ?_
      obtain ⟨i700, hwp⟩ := hwp
      refine x_scr C0 hX hbl hb0 i700 d_Lw_law_700 ?_
      obtain ⟨b701, hwp⟩ := hwp
      obtain ⟨g701, hwp⟩ := hwp
      refine x_callVi0 (k := l1) (As := [.int (Post.2 (l3 + (1 : Int32)).toNatClampNeg)]) (st := []) C0 (c_Br_count l G hwp) kw_3_65 mk_Br_count vk_Br_count rfl g701 rfl (Nat.le_of_ble_eq_true rfl) rfl rfl ⟨Nat.le_trans (by decide) hR.1, Nat.le_trans (by decide) hR.2.1⟩ ⟨Nat.le_trans b701.1 hR.2.2.1, Nat.le_trans b701.2 hR.2.2.2⟩ rfl d_Lw_law_701 (fun r701 h701 hwp => ?_)
      refine x_aload_n C0 2 d_Lw_law_704 rfl rfl ?_
      refine x_aload_n C0 0 d_Lw_law_705 rfl rfl ?_
      refine x_iload_n C0 3 d_Lw_law_706 rfl rfl ?_
      refine x_iconst (v := 1) C0 d_Lw_law_707 (by decide) ?_
      refine x_iadd C0 d_Lw_law_708 ?_
      obtain ⟨i709, hwp⟩ := hwp
      refine x_scr C0 hX hbl hb0 i709 d_Lw_law_709 ?_
      obtain ⟨b710, hwp⟩ := hwp
      obtain ⟨g710, hwp⟩ := hwp
      refine x_callVi0 (k := l2) (As := [.int (Post.2 (l3 + (1 : Int32)).toNatClampNeg)]) (st := [.int r701]) C0 (c_Rm_count l G hwp) kw_4_127 mk_Rm_count vk_Rm_count rfl g710 rfl (Nat.le_of_ble_eq_true rfl) rfl rfl ⟨Nat.le_trans (by decide) hR.1, Nat.le_trans (by decide) hR.2.1⟩ ⟨Nat.le_trans b710.1 hR.2.2.1, Nat.le_trans b710.2 hR.2.2.2⟩ rfl d_Lw_law_710 (fun r710 h710 hwp => ?_)
      refine x_icmp_eq (tgt := 718) C0 d_Lw_law_713 (by decide) (fun c713 => ?_) (fun c713 => ?_)
      · replace hwp := hwp.1 c713
        exact x_sub [0, 1, 2, 3] rfl (t_Lw_law_718 G C0 hR hr hlk hX hbl hb0 hK18 _ _ _ _ _ _ hwp)
      · replace hwp := hwp.2 c713
        refine x_iconst (v := 0) C0 d_Lw_law_716 (by decide) ?_
        exact hwp.elim
    have so32 : (((Post.2 (l3).toNatClampNeg) &&& (31 : Int32))).toInt < 0 ∨ 19 < (((Post.2 (l3).toNatClampNeg) &&& (31 : Int32))).toInt := by
      refine sw_out (fun k h1 h2 => ?_)
      obtain rfl | rfl | rfl | rfl | rfl | rfl | rfl | rfl | rfl | rfl | rfl | rfl | rfl | rfl | rfl | rfl | rfl | rfl | rfl | rfl : k = 0 ∨ k = 1 ∨ k = 2 ∨ k = 3 ∨ k = 4 ∨ k = 5 ∨ k = 6 ∨ k = 7 ∨ k = 8 ∨ k = 9 ∨ k = 10 ∨ k = 11 ∨ k = 12 ∨ k = 13 ∨ k = 14 ∨ k = 15 ∨ k = 16 ∨ k = 17 ∨ k = 18 ∨ k = 19 := by omega
      · exact c32_0
      · exact c32_1
      · exact c32_2
      · exact c32_3
      · exact c32_4
      · exact c32_5
      · exact c32_6
      · exact c32_7
      · exact c32_8
      · exact c32_9
      · exact c32_10
      · exact c32_11
      · exact c32_12
      · exact c32_13
      · exact c32_14
      · exact c32_15
      · exact c32_16
      · exact c32_17
      · exact c32_18
      · exact c32_19
    replace hwp := hwp.2.2.2.2.2.2.2.2.2.2.2.2.2.2.2.2.2.2.2.2 c32_0 c32_1 c32_2 c32_3 c32_4 c32_5 c32_6 c32_7 c32_8 c32_9 c32_10 c32_11 c32_12 c32_13 c32_14 c32_15 c32_16 c32_17 c32_18 c32_19
    refine x_tableOut (tgt := 718) C0 d_Lw_law_32 so32 (by decide) ?_
    exact x_sub [0, 1, 2, 3] rfl (t_Lw_law_718 G C0 hR hr hlk hX hbl hb0 hK18 _ _ _ _ _ _ hwp)
theorem t_Lw_law_18 {Post : Nat × (Nat → Int32)} {p : Program} {l : Launch} {e : Env} {s : State} {m : MethodId} {below : List Frame} {meth : Method} {c : Code} {xb : Nat} (G : mG) (C0 : Cx G p s m #[Value.ref xb] c code 4 "BassRealiserLaw") (hR : 10 ≤ room_1.frames ∧ 386 ≤ room_1.locals ∧ 600000 ≤ room_1.cells ∧ 7302250 ≤ room_1.slots) (hr : meth.sig.returnType = ret) (hlk : meth.locks = false) (hX : va_X xb Post.1 Post.2 s s.heap) (hbl : xb < s.heap.size) (hb0 : m_b G = s.heap.size) (cn : Nat) (sn : Nat) (l1 : Nat) (l2 : Nat) (l3 : Int32) (h : MH) (hwp : wp_Lw_law_18 Post cn sn l1 l2 l3 h) : WG p l e room_1 s m #[Value.ref xb] below meth c cn sn (lw_Z below #[Value.ref xb] s) G 4 [(0, .ref xb), (1, .ref (m_b G + l1)), (2, .ref (m_b G + l2)), (3, .int l3)] 18 [] h := by
  obtain ⟨n, hwp⟩ := hwp
  induction n generalizing cn sn l1 l2 l3 h with
  | zero => exact False.elim hwp
  | succ n ih => exact tb_Lw_law_18 G C0 hR hr hlk hX hbl hb0 (fun cn sn l1 l2 l3 h hwp => ih cn sn l1 l2 l3 h hwp) cn sn l1 l2 l3 h hwp
set_option maxRecDepth 100000 in
set_option maxHeartbeats 4000000 in
theorem t_Lw_law {Post : Nat × (Nat → Int32)} {p : Program} {l : Launch} {e : Env} {s : State} {m : MethodId} {below : List Frame} {meth : Method} {c : Code} {xb : Nat} (G : mG) (C0 : Cx G p s m #[Value.ref xb] c code 4 "BassRealiserLaw") (hR : 10 ≤ room_1.frames ∧ 386 ≤ room_1.locals ∧ 600000 ≤ room_1.cells ∧ 7302250 ≤ room_1.slots) (hr : meth.sig.returnType = ret) (hlk : meth.locks = false) (hX : va_X xb Post.1 Post.2 s s.heap) (hbl : xb < s.heap.size) (hb0 : m_b G = s.heap.size) (cn : Nat) (sn : Nat) (h : MH) (hwp : wp_Lw_law Post cn sn h) : WG p l e room_1 s m #[Value.ref xb] below meth c cn sn (lw_Z below #[Value.ref xb] s) G 4 [(0, .ref xb)] 0 [] h := by
  unfold wp_Lw_law at hwp
  obtain ⟨b0, hwp⟩ := hwp
  refine x_new C0 [.inr none, .inr none, .inr none, .inr none, .inl 0] (ci := 5) rfl iw_5 tf_5 tf_5_ok kw_1_10 kw_1_11 kw_1_1 (by intro j hj; exact df_5 _ j hj) ⟨Nat.le_trans b0.1 hR.2.2.1, Nat.le_trans b0.2 hR.2.2.2⟩ d_Lw_law_0 ?_
  refine x_nk (fun k0 ek0 => ?_)
  refine x_nh (fun h0 eh0 => ?_)
  replace hwp := hwp k0 h0 ek0 eh0
  refine x_dup C0 d_Lw_law_3 rfl ?_
  obtain ⟨b4, hwp⟩ := hwp
  refine x_callI (k := k0) (As := []) (st := [.ref (m_b G + k0)]) C0 (c_Br_init l G hwp) kw_1_12 mk_Br_init ⟨rfl, kw_1_13⟩ rfl (Nat.le_of_ble_eq_true rfl) rfl rfl ⟨Nat.le_trans (by decide) hR.1, Nat.le_trans (by decide) hR.2.1⟩ ⟨Nat.le_trans b4.1 hR.2.2.1, Nat.le_trans b4.2 hR.2.2.2⟩ rfl d_Lw_law_4 (fun h4 hwp => ?_)
  refine x_astore_n C0 d_Lw_law_7 rfl (by decide) (lv' := [(1, .ref (m_b G + k0)), (0, .ref xb)]) rfl ?_
  obtain ⟨b8, hwp⟩ := hwp
  refine x_new C0 [.inl 0, .inl 0, .inl 0, .inr none, .inr none, .inr none, .inr none, .inr none, .inr none, .inr none, .inl 0, .inr none, .inr none, .inr none, .inr none, .inr none, .inr none, .inr none, .inr none, .inl 0, .inr none, .inr none, .inr none, .inr none, .inl 0, .inr none] (ci := 6) rfl iw_6 tf_6 tf_6_ok kw_3_81 kw_3_82 kw_1_7 (by intro j hj; exact df_6 _ j hj) ⟨Nat.le_trans b8.1 hR.2.2.1, Nat.le_trans b8.2 hR.2.2.2⟩ d_Lw_law_8 ?_
  refine x_nk (fun k8 ek8 => ?_)
  refine x_nh (fun h8 eh8 => ?_)
  replace hwp := hwp k8 h8 ek8 eh8
  refine x_dup C0 d_Lw_law_11 rfl ?_
  obtain ⟨b12, hwp⟩ := hwp
  refine x_callI (k := k8) (As := []) (st := [.ref (m_b G + k8)]) C0 (c_Rm_init l G hwp) kw_3_83 mk_Rm_init ⟨rfl, kw_3_84⟩ rfl (Nat.le_of_ble_eq_true rfl) rfl rfl ⟨Nat.le_trans (by decide) hR.1, Nat.le_trans (by decide) hR.2.1⟩ ⟨Nat.le_trans b12.1 hR.2.2.1, Nat.le_trans b12.2 hR.2.2.2⟩ rfl d_Lw_law_12 (fun h12 hwp => ?_)
  refine x_astore_n C0 d_Lw_law_15 rfl (by decide) (lv' := [(2, .ref (m_b G + k8)), (1, .ref (m_b G + k0)), (0, .ref xb)]) rfl ?_
  refine x_iconst (v := 0) C0 d_Lw_law_16 (by decide) ?_
  refine x_istore_n C0 d_Lw_law_17 rfl (by decide) (lv' := [(3, .int (0 : Int32)), (2, .ref (m_b G + k8)), (1, .ref (m_b G + k0)), (0, .ref xb)]) rfl ?_
  exact x_sub [3, 2, 1, 0] rfl (t_Lw_law_18 G C0 hR hr hlk hX hbl hb0  _ _ _ _ _ _ hwp)
