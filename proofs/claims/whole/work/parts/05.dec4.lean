theorem d_Lw_law_0 : decode code 0 = .ok (.new 7, 3) := by decide +kernel
theorem d_Lw_law_3 : decode code 3 = .ok (.dup, 1) := by decide +kernel
theorem d_Lw_law_4 : decode code 4 = .ok (.invokespecial 9, 3) := by decide +kernel
theorem d_Lw_law_7 : decode code 7 = .ok (.astore_n 1, 1) := by decide +kernel
theorem d_Lw_law_8 : decode code 8 = .ok (.new 10, 3) := by decide +kernel
theorem d_Lw_law_11 : decode code 11 = .ok (.dup, 1) := by decide +kernel
theorem d_Lw_law_12 : decode code 12 = .ok (.invokespecial 12, 3) := by decide +kernel
theorem d_Lw_law_15 : decode code 15 = .ok (.astore_n 2, 1) := by decide +kernel
theorem d_Lw_law_16 : decode code 16 = .ok (.iconst 0, 1) := by decide +kernel
theorem d_Lw_law_17 : decode code 17 = .ok (.istore_n 3, 1) := by decide +kernel
theorem d_Lw_law_18 : decode code 18 = .ok (.iload_n 3, 1) := by decide +kernel
theorem d_Lw_law_19 : decode code 19 = .ok (.aload_n 0, 1) := by decide +kernel
theorem d_Lw_law_20 : decode code 20 = .ok (.arraylength, 1) := by decide +kernel
theorem d_Lw_law_21 : decode code 21 = .ok (.bipush 6, 2) := by decide +kernel
theorem d_Lw_law_23 : decode code 23 = .ok (.isub, 1) := by decide +kernel
theorem d_Lw_law_24 : decode code 24 = .ok (.if_icmp .gt 609, 3) := by decide +kernel
theorem d_Lw_law_27 : decode code 27 = .ok (.aload_n 0, 1) := by decide +kernel
theorem d_Lw_law_28 : decode code 28 = .ok (.iload_n 3, 1) := by decide +kernel
theorem d_Lw_law_29 : decode code 29 = .ok (.iaload, 1) := by decide +kernel
theorem d_Lw_law_30 : decode code 30 = .ok (.bipush 31, 2) := by decide +kernel
theorem d_Lw_law_32 : decode code 32 = .ok (.iand, 1) := by decide +kernel
theorem d_Lw_law_33 : decode code 33 = .ok (.tableswitch 594 0 16 #[83, 96, 119, 152, 175, 238, 281, 324, 347, 380, 413, 446, 469, 532, 545, 558, 581], 83) := by decide +kernel
theorem d_Lw_law_116 : decode code 116 = .ok (.aload_n 1, 1) := by decide +kernel
theorem d_Lw_law_117 : decode code 117 = .ok (.invokevirtual 13, 3) := by decide +kernel
theorem d_Lw_law_120 : decode code 120 = .ok (.aload_n 2, 1) := by decide +kernel
theorem d_Lw_law_121 : decode code 121 = .ok (.invokevirtual 17, 3) := by decide +kernel
theorem d_Lw_law_124 : decode code 124 = .ok (.if_icmp .eq 503, 3) := by decide +kernel
theorem d_Lw_law_127 : decode code 127 = .ok (.iconst 0, 1) := by decide +kernel
theorem d_Lw_law_128 : decode code 128 = .ok (.ireturn, 1) := by decide +kernel
theorem d_Lw_law_129 : decode code 129 = .ok (.aload_n 1, 1) := by decide +kernel
theorem d_Lw_law_130 : decode code 130 = .ok (.aload_n 0, 1) := by decide +kernel
theorem d_Lw_law_131 : decode code 131 = .ok (.iload_n 3, 1) := by decide +kernel
theorem d_Lw_law_132 : decode code 132 = .ok (.iconst 1, 1) := by decide +kernel
theorem d_Lw_law_133 : decode code 133 = .ok (.iadd, 1) := by decide +kernel
theorem d_Lw_law_134 : decode code 134 = .ok (.iaload, 1) := by decide +kernel
theorem d_Lw_law_135 : decode code 135 = .ok (.invokevirtual 18, 3) := by decide +kernel
theorem d_Lw_law_138 : decode code 138 = .ok (.aload_n 2, 1) := by decide +kernel
theorem d_Lw_law_139 : decode code 139 = .ok (.aload_n 0, 1) := by decide +kernel
theorem d_Lw_law_140 : decode code 140 = .ok (.iload_n 3, 1) := by decide +kernel
theorem d_Lw_law_141 : decode code 141 = .ok (.iconst 1, 1) := by decide +kernel
theorem d_Lw_law_142 : decode code 142 = .ok (.iadd, 1) := by decide +kernel
theorem d_Lw_law_143 : decode code 143 = .ok (.iaload, 1) := by decide +kernel
theorem d_Lw_law_144 : decode code 144 = .ok (.invokevirtual 22, 3) := by decide +kernel
theorem d_Lw_law_147 : decode code 147 = .ok (.if_icmp .eq 480, 3) := by decide +kernel
theorem d_Lw_law_150 : decode code 150 = .ok (.iconst 0, 1) := by decide +kernel
theorem d_Lw_law_151 : decode code 151 = .ok (.ireturn, 1) := by decide +kernel
theorem d_Lw_law_152 : decode code 152 = .ok (.aload_n 1, 1) := by decide +kernel
theorem d_Lw_law_153 : decode code 153 = .ok (.aload_n 0, 1) := by decide +kernel
theorem d_Lw_law_154 : decode code 154 = .ok (.iload_n 3, 1) := by decide +kernel
theorem d_Lw_law_155 : decode code 155 = .ok (.iconst 1, 1) := by decide +kernel
theorem d_Lw_law_156 : decode code 156 = .ok (.iadd, 1) := by decide +kernel
theorem d_Lw_law_157 : decode code 157 = .ok (.iaload, 1) := by decide +kernel
theorem d_Lw_law_158 : decode code 158 = .ok (.aload_n 0, 1) := by decide +kernel
theorem d_Lw_law_159 : decode code 159 = .ok (.iload_n 3, 1) := by decide +kernel
theorem d_Lw_law_160 : decode code 160 = .ok (.iconst 2, 1) := by decide +kernel
theorem d_Lw_law_161 : decode code 161 = .ok (.iadd, 1) := by decide +kernel
theorem d_Lw_law_162 : decode code 162 = .ok (.iaload, 1) := by decide +kernel
theorem d_Lw_law_163 : decode code 163 = .ok (.invokevirtual 23, 3) := by decide +kernel
theorem d_Lw_law_166 : decode code 166 = .ok (.aload_n 2, 1) := by decide +kernel
theorem d_Lw_law_167 : decode code 167 = .ok (.aload_n 0, 1) := by decide +kernel
theorem d_Lw_law_168 : decode code 168 = .ok (.iload_n 3, 1) := by decide +kernel
theorem d_Lw_law_169 : decode code 169 = .ok (.iconst 1, 1) := by decide +kernel
theorem d_Lw_law_170 : decode code 170 = .ok (.iadd, 1) := by decide +kernel
theorem d_Lw_law_171 : decode code 171 = .ok (.iaload, 1) := by decide +kernel
theorem d_Lw_law_172 : decode code 172 = .ok (.aload_n 0, 1) := by decide +kernel
theorem d_Lw_law_173 : decode code 173 = .ok (.iload_n 3, 1) := by decide +kernel
theorem d_Lw_law_174 : decode code 174 = .ok (.iconst 2, 1) := by decide +kernel
theorem d_Lw_law_175 : decode code 175 = .ok (.iadd, 1) := by decide +kernel
theorem d_Lw_law_176 : decode code 176 = .ok (.iaload, 1) := by decide +kernel
theorem d_Lw_law_177 : decode code 177 = .ok (.invokevirtual 27, 3) := by decide +kernel
theorem d_Lw_law_180 : decode code 180 = .ok (.if_icmp .eq 447, 3) := by decide +kernel
theorem d_Lw_law_183 : decode code 183 = .ok (.iconst 0, 1) := by decide +kernel
theorem d_Lw_law_184 : decode code 184 = .ok (.ireturn, 1) := by decide +kernel
theorem d_Lw_law_185 : decode code 185 = .ok (.aload_n 1, 1) := by decide +kernel
theorem d_Lw_law_186 : decode code 186 = .ok (.aload_n 0, 1) := by decide +kernel
theorem d_Lw_law_187 : decode code 187 = .ok (.iload_n 3, 1) := by decide +kernel
theorem d_Lw_law_188 : decode code 188 = .ok (.iconst 1, 1) := by decide +kernel
theorem d_Lw_law_189 : decode code 189 = .ok (.iadd, 1) := by decide +kernel
theorem d_Lw_law_190 : decode code 190 = .ok (.iaload, 1) := by decide +kernel
theorem d_Lw_law_191 : decode code 191 = .ok (.invokevirtual 28, 3) := by decide +kernel
theorem d_Lw_law_194 : decode code 194 = .ok (.aload_n 2, 1) := by decide +kernel
theorem d_Lw_law_195 : decode code 195 = .ok (.aload_n 0, 1) := by decide +kernel
theorem d_Lw_law_196 : decode code 196 = .ok (.iload_n 3, 1) := by decide +kernel
theorem d_Lw_law_197 : decode code 197 = .ok (.iconst 1, 1) := by decide +kernel
theorem d_Lw_law_198 : decode code 198 = .ok (.iadd, 1) := by decide +kernel
theorem d_Lw_law_199 : decode code 199 = .ok (.iaload, 1) := by decide +kernel
theorem d_Lw_law_200 : decode code 200 = .ok (.invokevirtual 31, 3) := by decide +kernel
theorem d_Lw_law_203 : decode code 203 = .ok (.if_icmp .eq 424, 3) := by decide +kernel
theorem d_Lw_law_206 : decode code 206 = .ok (.iconst 0, 1) := by decide +kernel
theorem d_Lw_law_207 : decode code 207 = .ok (.ireturn, 1) := by decide +kernel
theorem d_Lw_law_208 : decode code 208 = .ok (.aload_n 1, 1) := by decide +kernel
theorem d_Lw_law_209 : decode code 209 = .ok (.aload_n 0, 1) := by decide +kernel
theorem d_Lw_law_210 : decode code 210 = .ok (.iload_n 3, 1) := by decide +kernel
theorem d_Lw_law_211 : decode code 211 = .ok (.iconst 1, 1) := by decide +kernel
theorem d_Lw_law_212 : decode code 212 = .ok (.iadd, 1) := by decide +kernel
theorem d_Lw_law_213 : decode code 213 = .ok (.iaload, 1) := by decide +kernel
theorem d_Lw_law_214 : decode code 214 = .ok (.aload_n 0, 1) := by decide +kernel
theorem d_Lw_law_215 : decode code 215 = .ok (.iload_n 3, 1) := by decide +kernel
theorem d_Lw_law_216 : decode code 216 = .ok (.iconst 2, 1) := by decide +kernel
theorem d_Lw_law_217 : decode code 217 = .ok (.iadd, 1) := by decide +kernel
theorem d_Lw_law_218 : decode code 218 = .ok (.iaload, 1) := by decide +kernel
theorem d_Lw_law_219 : decode code 219 = .ok (.aload_n 0, 1) := by decide +kernel
theorem d_Lw_law_220 : decode code 220 = .ok (.iload_n 3, 1) := by decide +kernel
theorem d_Lw_law_221 : decode code 221 = .ok (.iconst 3, 1) := by decide +kernel
theorem d_Lw_law_222 : decode code 222 = .ok (.iadd, 1) := by decide +kernel
theorem d_Lw_law_223 : decode code 223 = .ok (.iaload, 1) := by decide +kernel
theorem d_Lw_law_224 : decode code 224 = .ok (.aload_n 0, 1) := by decide +kernel
theorem d_Lw_law_225 : decode code 225 = .ok (.iload_n 3, 1) := by decide +kernel
theorem d_Lw_law_226 : decode code 226 = .ok (.iconst 4, 1) := by decide +kernel
theorem d_Lw_law_227 : decode code 227 = .ok (.iadd, 1) := by decide +kernel
theorem d_Lw_law_228 : decode code 228 = .ok (.iaload, 1) := by decide +kernel
theorem d_Lw_law_229 : decode code 229 = .ok (.aload_n 0, 1) := by decide +kernel
theorem d_Lw_law_230 : decode code 230 = .ok (.iload_n 3, 1) := by decide +kernel
theorem d_Lw_law_231 : decode code 231 = .ok (.iconst 5, 1) := by decide +kernel
theorem d_Lw_law_232 : decode code 232 = .ok (.iadd, 1) := by decide +kernel
theorem d_Lw_law_233 : decode code 233 = .ok (.iaload, 1) := by decide +kernel
theorem d_Lw_law_234 : decode code 234 = .ok (.invokevirtual 32, 3) := by decide +kernel
theorem d_Lw_law_237 : decode code 237 = .ok (.aload_n 2, 1) := by decide +kernel
theorem d_Lw_law_238 : decode code 238 = .ok (.aload_n 0, 1) := by decide +kernel
theorem d_Lw_law_239 : decode code 239 = .ok (.iload_n 3, 1) := by decide +kernel
theorem d_Lw_law_240 : decode code 240 = .ok (.iconst 1, 1) := by decide +kernel
theorem d_Lw_law_241 : decode code 241 = .ok (.iadd, 1) := by decide +kernel
theorem d_Lw_law_242 : decode code 242 = .ok (.iaload, 1) := by decide +kernel
theorem d_Lw_law_243 : decode code 243 = .ok (.aload_n 0, 1) := by decide +kernel
theorem d_Lw_law_244 : decode code 244 = .ok (.iload_n 3, 1) := by decide +kernel
theorem d_Lw_law_245 : decode code 245 = .ok (.iconst 2, 1) := by decide +kernel
theorem d_Lw_law_246 : decode code 246 = .ok (.iadd, 1) := by decide +kernel
theorem d_Lw_law_247 : decode code 247 = .ok (.iaload, 1) := by decide +kernel
theorem d_Lw_law_248 : decode code 248 = .ok (.aload_n 0, 1) := by decide +kernel
theorem d_Lw_law_249 : decode code 249 = .ok (.iload_n 3, 1) := by decide +kernel
theorem d_Lw_law_250 : decode code 250 = .ok (.iconst 3, 1) := by decide +kernel
theorem d_Lw_law_251 : decode code 251 = .ok (.iadd, 1) := by decide +kernel
theorem d_Lw_law_252 : decode code 252 = .ok (.iaload, 1) := by decide +kernel
theorem d_Lw_law_253 : decode code 253 = .ok (.aload_n 0, 1) := by decide +kernel
theorem d_Lw_law_254 : decode code 254 = .ok (.iload_n 3, 1) := by decide +kernel
theorem d_Lw_law_255 : decode code 255 = .ok (.iconst 4, 1) := by decide +kernel
theorem d_Lw_law_256 : decode code 256 = .ok (.iadd, 1) := by decide +kernel
theorem d_Lw_law_257 : decode code 257 = .ok (.iaload, 1) := by decide +kernel
theorem d_Lw_law_258 : decode code 258 = .ok (.aload_n 0, 1) := by decide +kernel
theorem d_Lw_law_259 : decode code 259 = .ok (.iload_n 3, 1) := by decide +kernel
theorem d_Lw_law_260 : decode code 260 = .ok (.iconst 5, 1) := by decide +kernel
theorem d_Lw_law_261 : decode code 261 = .ok (.iadd, 1) := by decide +kernel
theorem d_Lw_law_262 : decode code 262 = .ok (.iaload, 1) := by decide +kernel
theorem d_Lw_law_263 : decode code 263 = .ok (.invokevirtual 36, 3) := by decide +kernel
theorem d_Lw_law_266 : decode code 266 = .ok (.if_icmp .eq 361, 3) := by decide +kernel
theorem d_Lw_law_269 : decode code 269 = .ok (.iconst 0, 1) := by decide +kernel
theorem d_Lw_law_270 : decode code 270 = .ok (.ireturn, 1) := by decide +kernel
theorem d_Lw_law_271 : decode code 271 = .ok (.aload_n 1, 1) := by decide +kernel
theorem d_Lw_law_272 : decode code 272 = .ok (.aload_n 0, 1) := by decide +kernel
theorem d_Lw_law_273 : decode code 273 = .ok (.iload_n 3, 1) := by decide +kernel
theorem d_Lw_law_274 : decode code 274 = .ok (.iconst 1, 1) := by decide +kernel
theorem d_Lw_law_275 : decode code 275 = .ok (.iadd, 1) := by decide +kernel
theorem d_Lw_law_276 : decode code 276 = .ok (.iaload, 1) := by decide +kernel
theorem d_Lw_law_277 : decode code 277 = .ok (.aload_n 0, 1) := by decide +kernel
theorem d_Lw_law_278 : decode code 278 = .ok (.iload_n 3, 1) := by decide +kernel
theorem d_Lw_law_279 : decode code 279 = .ok (.iconst 2, 1) := by decide +kernel
theorem d_Lw_law_280 : decode code 280 = .ok (.iadd, 1) := by decide +kernel
theorem d_Lw_law_281 : decode code 281 = .ok (.iaload, 1) := by decide +kernel
theorem d_Lw_law_282 : decode code 282 = .ok (.aload_n 0, 1) := by decide +kernel
theorem d_Lw_law_283 : decode code 283 = .ok (.iload_n 3, 1) := by decide +kernel
theorem d_Lw_law_284 : decode code 284 = .ok (.iconst 3, 1) := by decide +kernel
theorem d_Lw_law_285 : decode code 285 = .ok (.iadd, 1) := by decide +kernel
theorem d_Lw_law_286 : decode code 286 = .ok (.iaload, 1) := by decide +kernel
theorem d_Lw_law_287 : decode code 287 = .ok (.invokevirtual 37, 3) := by decide +kernel
theorem d_Lw_law_290 : decode code 290 = .ok (.aload_n 2, 1) := by decide +kernel
theorem d_Lw_law_291 : decode code 291 = .ok (.aload_n 0, 1) := by decide +kernel
theorem d_Lw_law_292 : decode code 292 = .ok (.iload_n 3, 1) := by decide +kernel
theorem d_Lw_law_293 : decode code 293 = .ok (.iconst 1, 1) := by decide +kernel
theorem d_Lw_law_294 : decode code 294 = .ok (.iadd, 1) := by decide +kernel
theorem d_Lw_law_295 : decode code 295 = .ok (.iaload, 1) := by decide +kernel
theorem d_Lw_law_296 : decode code 296 = .ok (.aload_n 0, 1) := by decide +kernel
theorem d_Lw_law_297 : decode code 297 = .ok (.iload_n 3, 1) := by decide +kernel
theorem d_Lw_law_298 : decode code 298 = .ok (.iconst 2, 1) := by decide +kernel
theorem d_Lw_law_299 : decode code 299 = .ok (.iadd, 1) := by decide +kernel
theorem d_Lw_law_300 : decode code 300 = .ok (.iaload, 1) := by decide +kernel
theorem d_Lw_law_301 : decode code 301 = .ok (.aload_n 0, 1) := by decide +kernel
theorem d_Lw_law_302 : decode code 302 = .ok (.iload_n 3, 1) := by decide +kernel
theorem d_Lw_law_303 : decode code 303 = .ok (.iconst 3, 1) := by decide +kernel
theorem d_Lw_law_304 : decode code 304 = .ok (.iadd, 1) := by decide +kernel
theorem d_Lw_law_305 : decode code 305 = .ok (.iaload, 1) := by decide +kernel
theorem d_Lw_law_306 : decode code 306 = .ok (.invokevirtual 41, 3) := by decide +kernel
theorem d_Lw_law_309 : decode code 309 = .ok (.if_icmp .eq 318, 3) := by decide +kernel
theorem d_Lw_law_312 : decode code 312 = .ok (.iconst 0, 1) := by decide +kernel
theorem d_Lw_law_313 : decode code 313 = .ok (.ireturn, 1) := by decide +kernel
theorem d_Lw_law_314 : decode code 314 = .ok (.aload_n 1, 1) := by decide +kernel
theorem d_Lw_law_315 : decode code 315 = .ok (.aload_n 0, 1) := by decide +kernel
theorem d_Lw_law_316 : decode code 316 = .ok (.iload_n 3, 1) := by decide +kernel
theorem d_Lw_law_317 : decode code 317 = .ok (.iconst 1, 1) := by decide +kernel
theorem d_Lw_law_318 : decode code 318 = .ok (.iadd, 1) := by decide +kernel
theorem d_Lw_law_319 : decode code 319 = .ok (.iaload, 1) := by decide +kernel
theorem d_Lw_law_320 : decode code 320 = .ok (.aload_n 0, 1) := by decide +kernel
theorem d_Lw_law_321 : decode code 321 = .ok (.iload_n 3, 1) := by decide +kernel
theorem d_Lw_law_322 : decode code 322 = .ok (.iconst 2, 1) := by decide +kernel
theorem d_Lw_law_323 : decode code 323 = .ok (.iadd, 1) := by decide +kernel
theorem d_Lw_law_324 : decode code 324 = .ok (.iaload, 1) := by decide +kernel
theorem d_Lw_law_325 : decode code 325 = .ok (.aload_n 0, 1) := by decide +kernel
theorem d_Lw_law_326 : decode code 326 = .ok (.iload_n 3, 1) := by decide +kernel
theorem d_Lw_law_327 : decode code 327 = .ok (.iconst 3, 1) := by decide +kernel
theorem d_Lw_law_328 : decode code 328 = .ok (.iadd, 1) := by decide +kernel
theorem d_Lw_law_329 : decode code 329 = .ok (.iaload, 1) := by decide +kernel
theorem d_Lw_law_330 : decode code 330 = .ok (.invokevirtual 42, 3) := by decide +kernel
theorem d_Lw_law_333 : decode code 333 = .ok (.aload_n 2, 1) := by decide +kernel
theorem d_Lw_law_334 : decode code 334 = .ok (.aload_n 0, 1) := by decide +kernel
theorem d_Lw_law_335 : decode code 335 = .ok (.iload_n 3, 1) := by decide +kernel
theorem d_Lw_law_336 : decode code 336 = .ok (.iconst 1, 1) := by decide +kernel
theorem d_Lw_law_337 : decode code 337 = .ok (.iadd, 1) := by decide +kernel
theorem d_Lw_law_338 : decode code 338 = .ok (.iaload, 1) := by decide +kernel
theorem d_Lw_law_339 : decode code 339 = .ok (.aload_n 0, 1) := by decide +kernel
theorem d_Lw_law_340 : decode code 340 = .ok (.iload_n 3, 1) := by decide +kernel
theorem d_Lw_law_341 : decode code 341 = .ok (.iconst 2, 1) := by decide +kernel
theorem d_Lw_law_342 : decode code 342 = .ok (.iadd, 1) := by decide +kernel
theorem d_Lw_law_343 : decode code 343 = .ok (.iaload, 1) := by decide +kernel
theorem d_Lw_law_344 : decode code 344 = .ok (.aload_n 0, 1) := by decide +kernel
theorem d_Lw_law_345 : decode code 345 = .ok (.iload_n 3, 1) := by decide +kernel
theorem d_Lw_law_346 : decode code 346 = .ok (.iconst 3, 1) := by decide +kernel
theorem d_Lw_law_347 : decode code 347 = .ok (.iadd, 1) := by decide +kernel
theorem d_Lw_law_348 : decode code 348 = .ok (.iaload, 1) := by decide +kernel
theorem d_Lw_law_349 : decode code 349 = .ok (.invokevirtual 45, 3) := by decide +kernel
theorem d_Lw_law_352 : decode code 352 = .ok (.if_icmp .eq 275, 3) := by decide +kernel
theorem d_Lw_law_355 : decode code 355 = .ok (.iconst 0, 1) := by decide +kernel
theorem d_Lw_law_356 : decode code 356 = .ok (.ireturn, 1) := by decide +kernel
theorem d_Lw_law_357 : decode code 357 = .ok (.aload_n 1, 1) := by decide +kernel
theorem d_Lw_law_358 : decode code 358 = .ok (.aload_n 0, 1) := by decide +kernel
theorem d_Lw_law_359 : decode code 359 = .ok (.iload_n 3, 1) := by decide +kernel
theorem d_Lw_law_360 : decode code 360 = .ok (.iconst 1, 1) := by decide +kernel
theorem d_Lw_law_361 : decode code 361 = .ok (.iadd, 1) := by decide +kernel
theorem d_Lw_law_362 : decode code 362 = .ok (.iaload, 1) := by decide +kernel
theorem d_Lw_law_363 : decode code 363 = .ok (.invokevirtual 46, 3) := by decide +kernel
theorem d_Lw_law_366 : decode code 366 = .ok (.aload_n 2, 1) := by decide +kernel
theorem d_Lw_law_367 : decode code 367 = .ok (.aload_n 0, 1) := by decide +kernel
theorem d_Lw_law_368 : decode code 368 = .ok (.iload_n 3, 1) := by decide +kernel
theorem d_Lw_law_369 : decode code 369 = .ok (.iconst 1, 1) := by decide +kernel
theorem d_Lw_law_370 : decode code 370 = .ok (.iadd, 1) := by decide +kernel
theorem d_Lw_law_371 : decode code 371 = .ok (.iaload, 1) := by decide +kernel
theorem d_Lw_law_372 : decode code 372 = .ok (.invokevirtual 49, 3) := by decide +kernel
theorem d_Lw_law_375 : decode code 375 = .ok (.if_icmp .eq 252, 3) := by decide +kernel
theorem d_Lw_law_378 : decode code 378 = .ok (.iconst 0, 1) := by decide +kernel
theorem d_Lw_law_379 : decode code 379 = .ok (.ireturn, 1) := by decide +kernel
theorem d_Lw_law_380 : decode code 380 = .ok (.aload_n 1, 1) := by decide +kernel
theorem d_Lw_law_381 : decode code 381 = .ok (.aload_n 0, 1) := by decide +kernel
theorem d_Lw_law_382 : decode code 382 = .ok (.iload_n 3, 1) := by decide +kernel
theorem d_Lw_law_383 : decode code 383 = .ok (.iconst 1, 1) := by decide +kernel
theorem d_Lw_law_384 : decode code 384 = .ok (.iadd, 1) := by decide +kernel
theorem d_Lw_law_385 : decode code 385 = .ok (.iaload, 1) := by decide +kernel
theorem d_Lw_law_386 : decode code 386 = .ok (.aload_n 0, 1) := by decide +kernel
theorem d_Lw_law_387 : decode code 387 = .ok (.iload_n 3, 1) := by decide +kernel
theorem d_Lw_law_388 : decode code 388 = .ok (.iconst 2, 1) := by decide +kernel
theorem d_Lw_law_389 : decode code 389 = .ok (.iadd, 1) := by decide +kernel
theorem d_Lw_law_390 : decode code 390 = .ok (.iaload, 1) := by decide +kernel
theorem d_Lw_law_391 : decode code 391 = .ok (.invokevirtual 50, 3) := by decide +kernel
theorem d_Lw_law_394 : decode code 394 = .ok (.aload_n 2, 1) := by decide +kernel
theorem d_Lw_law_395 : decode code 395 = .ok (.aload_n 0, 1) := by decide +kernel
theorem d_Lw_law_396 : decode code 396 = .ok (.iload_n 3, 1) := by decide +kernel
theorem d_Lw_law_397 : decode code 397 = .ok (.iconst 1, 1) := by decide +kernel
theorem d_Lw_law_398 : decode code 398 = .ok (.iadd, 1) := by decide +kernel
theorem d_Lw_law_399 : decode code 399 = .ok (.iaload, 1) := by decide +kernel
theorem d_Lw_law_400 : decode code 400 = .ok (.aload_n 0, 1) := by decide +kernel
theorem d_Lw_law_401 : decode code 401 = .ok (.iload_n 3, 1) := by decide +kernel
theorem d_Lw_law_402 : decode code 402 = .ok (.iconst 2, 1) := by decide +kernel
theorem d_Lw_law_403 : decode code 403 = .ok (.iadd, 1) := by decide +kernel
theorem d_Lw_law_404 : decode code 404 = .ok (.iaload, 1) := by decide +kernel
theorem d_Lw_law_405 : decode code 405 = .ok (.invokevirtual 53, 3) := by decide +kernel
theorem d_Lw_law_408 : decode code 408 = .ok (.if_icmp .eq 219, 3) := by decide +kernel
theorem d_Lw_law_411 : decode code 411 = .ok (.iconst 0, 1) := by decide +kernel
theorem d_Lw_law_412 : decode code 412 = .ok (.ireturn, 1) := by decide +kernel
theorem d_Lw_law_413 : decode code 413 = .ok (.aload_n 1, 1) := by decide +kernel
theorem d_Lw_law_414 : decode code 414 = .ok (.aload_n 0, 1) := by decide +kernel
theorem d_Lw_law_415 : decode code 415 = .ok (.iload_n 3, 1) := by decide +kernel
theorem d_Lw_law_416 : decode code 416 = .ok (.iconst 1, 1) := by decide +kernel
theorem d_Lw_law_417 : decode code 417 = .ok (.iadd, 1) := by decide +kernel
theorem d_Lw_law_418 : decode code 418 = .ok (.iaload, 1) := by decide +kernel
theorem d_Lw_law_419 : decode code 419 = .ok (.aload_n 0, 1) := by decide +kernel
theorem d_Lw_law_420 : decode code 420 = .ok (.iload_n 3, 1) := by decide +kernel
theorem d_Lw_law_421 : decode code 421 = .ok (.iconst 2, 1) := by decide +kernel
theorem d_Lw_law_422 : decode code 422 = .ok (.iadd, 1) := by decide +kernel
theorem d_Lw_law_423 : decode code 423 = .ok (.iaload, 1) := by decide +kernel
theorem d_Lw_law_424 : decode code 424 = .ok (.invokevirtual 54, 3) := by decide +kernel
theorem d_Lw_law_427 : decode code 427 = .ok (.aload_n 2, 1) := by decide +kernel
theorem d_Lw_law_428 : decode code 428 = .ok (.aload_n 0, 1) := by decide +kernel
theorem d_Lw_law_429 : decode code 429 = .ok (.iload_n 3, 1) := by decide +kernel
theorem d_Lw_law_430 : decode code 430 = .ok (.iconst 1, 1) := by decide +kernel
theorem d_Lw_law_431 : decode code 431 = .ok (.iadd, 1) := by decide +kernel
theorem d_Lw_law_432 : decode code 432 = .ok (.iaload, 1) := by decide +kernel
theorem d_Lw_law_433 : decode code 433 = .ok (.aload_n 0, 1) := by decide +kernel
theorem d_Lw_law_434 : decode code 434 = .ok (.iload_n 3, 1) := by decide +kernel
theorem d_Lw_law_435 : decode code 435 = .ok (.iconst 2, 1) := by decide +kernel
theorem d_Lw_law_436 : decode code 436 = .ok (.iadd, 1) := by decide +kernel
theorem d_Lw_law_437 : decode code 437 = .ok (.iaload, 1) := by decide +kernel
theorem d_Lw_law_438 : decode code 438 = .ok (.invokevirtual 57, 3) := by decide +kernel
theorem d_Lw_law_441 : decode code 441 = .ok (.if_icmp .eq 186, 3) := by decide +kernel
theorem d_Lw_law_444 : decode code 444 = .ok (.iconst 0, 1) := by decide +kernel
theorem d_Lw_law_445 : decode code 445 = .ok (.ireturn, 1) := by decide +kernel
theorem d_Lw_law_446 : decode code 446 = .ok (.aload_n 1, 1) := by decide +kernel
theorem d_Lw_law_447 : decode code 447 = .ok (.aload_n 0, 1) := by decide +kernel
theorem d_Lw_law_448 : decode code 448 = .ok (.iload_n 3, 1) := by decide +kernel
theorem d_Lw_law_449 : decode code 449 = .ok (.iconst 1, 1) := by decide +kernel
theorem d_Lw_law_450 : decode code 450 = .ok (.iadd, 1) := by decide +kernel
theorem d_Lw_law_451 : decode code 451 = .ok (.iaload, 1) := by decide +kernel
theorem d_Lw_law_452 : decode code 452 = .ok (.aload_n 0, 1) := by decide +kernel
theorem d_Lw_law_453 : decode code 453 = .ok (.iload_n 3, 1) := by decide +kernel
theorem d_Lw_law_454 : decode code 454 = .ok (.iconst 2, 1) := by decide +kernel
theorem d_Lw_law_455 : decode code 455 = .ok (.iadd, 1) := by decide +kernel
theorem d_Lw_law_456 : decode code 456 = .ok (.iaload, 1) := by decide +kernel
theorem d_Lw_law_457 : decode code 457 = .ok (.invokevirtual 58, 3) := by decide +kernel
theorem d_Lw_law_460 : decode code 460 = .ok (.aload_n 2, 1) := by decide +kernel
theorem d_Lw_law_461 : decode code 461 = .ok (.aload_n 0, 1) := by decide +kernel
theorem d_Lw_law_462 : decode code 462 = .ok (.iload_n 3, 1) := by decide +kernel
theorem d_Lw_law_463 : decode code 463 = .ok (.iconst 1, 1) := by decide +kernel
theorem d_Lw_law_464 : decode code 464 = .ok (.iadd, 1) := by decide +kernel
theorem d_Lw_law_465 : decode code 465 = .ok (.iaload, 1) := by decide +kernel
theorem d_Lw_law_466 : decode code 466 = .ok (.aload_n 0, 1) := by decide +kernel
theorem d_Lw_law_467 : decode code 467 = .ok (.iload_n 3, 1) := by decide +kernel
theorem d_Lw_law_468 : decode code 468 = .ok (.iconst 2, 1) := by decide +kernel
theorem d_Lw_law_469 : decode code 469 = .ok (.iadd, 1) := by decide +kernel
theorem d_Lw_law_470 : decode code 470 = .ok (.iaload, 1) := by decide +kernel
theorem d_Lw_law_471 : decode code 471 = .ok (.invokevirtual 61, 3) := by decide +kernel
theorem d_Lw_law_474 : decode code 474 = .ok (.if_icmp .eq 153, 3) := by decide +kernel
theorem d_Lw_law_477 : decode code 477 = .ok (.iconst 0, 1) := by decide +kernel
theorem d_Lw_law_478 : decode code 478 = .ok (.ireturn, 1) := by decide +kernel
theorem d_Lw_law_479 : decode code 479 = .ok (.aload_n 1, 1) := by decide +kernel
theorem d_Lw_law_480 : decode code 480 = .ok (.aload_n 0, 1) := by decide +kernel
theorem d_Lw_law_481 : decode code 481 = .ok (.iload_n 3, 1) := by decide +kernel
theorem d_Lw_law_482 : decode code 482 = .ok (.iconst 1, 1) := by decide +kernel
theorem d_Lw_law_483 : decode code 483 = .ok (.iadd, 1) := by decide +kernel
theorem d_Lw_law_484 : decode code 484 = .ok (.iaload, 1) := by decide +kernel
theorem d_Lw_law_485 : decode code 485 = .ok (.invokevirtual 62, 3) := by decide +kernel
theorem d_Lw_law_488 : decode code 488 = .ok (.aload_n 2, 1) := by decide +kernel
theorem d_Lw_law_489 : decode code 489 = .ok (.aload_n 0, 1) := by decide +kernel
theorem d_Lw_law_490 : decode code 490 = .ok (.iload_n 3, 1) := by decide +kernel
theorem d_Lw_law_491 : decode code 491 = .ok (.iconst 1, 1) := by decide +kernel
theorem d_Lw_law_492 : decode code 492 = .ok (.iadd, 1) := by decide +kernel
theorem d_Lw_law_493 : decode code 493 = .ok (.iaload, 1) := by decide +kernel
theorem d_Lw_law_494 : decode code 494 = .ok (.invokevirtual 65, 3) := by decide +kernel
theorem d_Lw_law_497 : decode code 497 = .ok (.if_icmp .eq 130, 3) := by decide +kernel
theorem d_Lw_law_500 : decode code 500 = .ok (.iconst 0, 1) := by decide +kernel
theorem d_Lw_law_501 : decode code 501 = .ok (.ireturn, 1) := by decide +kernel
theorem d_Lw_law_502 : decode code 502 = .ok (.aload_n 1, 1) := by decide +kernel
theorem d_Lw_law_503 : decode code 503 = .ok (.aload_n 0, 1) := by decide +kernel
theorem d_Lw_law_504 : decode code 504 = .ok (.iload_n 3, 1) := by decide +kernel
theorem d_Lw_law_505 : decode code 505 = .ok (.iconst 1, 1) := by decide +kernel
theorem d_Lw_law_506 : decode code 506 = .ok (.iadd, 1) := by decide +kernel
theorem d_Lw_law_507 : decode code 507 = .ok (.iaload, 1) := by decide +kernel
theorem d_Lw_law_508 : decode code 508 = .ok (.aload_n 0, 1) := by decide +kernel
theorem d_Lw_law_509 : decode code 509 = .ok (.iload_n 3, 1) := by decide +kernel
theorem d_Lw_law_510 : decode code 510 = .ok (.iconst 2, 1) := by decide +kernel
theorem d_Lw_law_511 : decode code 511 = .ok (.iadd, 1) := by decide +kernel
theorem d_Lw_law_512 : decode code 512 = .ok (.iaload, 1) := by decide +kernel
theorem d_Lw_law_513 : decode code 513 = .ok (.i2l, 1) := by decide +kernel
theorem d_Lw_law_514 : decode code 514 = .ok (.bipush 32, 2) := by decide +kernel
theorem d_Lw_law_516 : decode code 516 = .ok (.lshl, 1) := by decide +kernel
theorem d_Lw_law_517 : decode code 517 = .ok (.aload_n 0, 1) := by decide +kernel
theorem d_Lw_law_518 : decode code 518 = .ok (.iload_n 3, 1) := by decide +kernel
theorem d_Lw_law_519 : decode code 519 = .ok (.iconst 3, 1) := by decide +kernel
theorem d_Lw_law_520 : decode code 520 = .ok (.iadd, 1) := by decide +kernel
theorem d_Lw_law_521 : decode code 521 = .ok (.iaload, 1) := by decide +kernel
theorem d_Lw_law_522 : decode code 522 = .ok (.i2l, 1) := by decide +kernel
theorem d_Lw_law_523 : decode code 523 = .ok (.ldc2_w 66, 3) := by decide +kernel
theorem d_Lw_law_526 : decode code 526 = .ok (.land, 1) := by decide +kernel
theorem d_Lw_law_527 : decode code 527 = .ok (.lor, 1) := by decide +kernel
theorem d_Lw_law_528 : decode code 528 = .ok (.invokevirtual 68, 3) := by decide +kernel
theorem d_Lw_law_531 : decode code 531 = .ok (.aload_n 2, 1) := by decide +kernel
theorem d_Lw_law_532 : decode code 532 = .ok (.aload_n 0, 1) := by decide +kernel
theorem d_Lw_law_533 : decode code 533 = .ok (.iload_n 3, 1) := by decide +kernel
theorem d_Lw_law_534 : decode code 534 = .ok (.iconst 1, 1) := by decide +kernel
theorem d_Lw_law_535 : decode code 535 = .ok (.iadd, 1) := by decide +kernel
theorem d_Lw_law_536 : decode code 536 = .ok (.iaload, 1) := by decide +kernel
theorem d_Lw_law_537 : decode code 537 = .ok (.aload_n 0, 1) := by decide +kernel
theorem d_Lw_law_538 : decode code 538 = .ok (.iload_n 3, 1) := by decide +kernel
theorem d_Lw_law_539 : decode code 539 = .ok (.iconst 2, 1) := by decide +kernel
theorem d_Lw_law_540 : decode code 540 = .ok (.iadd, 1) := by decide +kernel
theorem d_Lw_law_541 : decode code 541 = .ok (.iaload, 1) := by decide +kernel
theorem d_Lw_law_542 : decode code 542 = .ok (.i2l, 1) := by decide +kernel
theorem d_Lw_law_543 : decode code 543 = .ok (.bipush 32, 2) := by decide +kernel
theorem d_Lw_law_545 : decode code 545 = .ok (.lshl, 1) := by decide +kernel
theorem d_Lw_law_546 : decode code 546 = .ok (.aload_n 0, 1) := by decide +kernel
theorem d_Lw_law_547 : decode code 547 = .ok (.iload_n 3, 1) := by decide +kernel
theorem d_Lw_law_548 : decode code 548 = .ok (.iconst 3, 1) := by decide +kernel
theorem d_Lw_law_549 : decode code 549 = .ok (.iadd, 1) := by decide +kernel
theorem d_Lw_law_550 : decode code 550 = .ok (.iaload, 1) := by decide +kernel
theorem d_Lw_law_551 : decode code 551 = .ok (.i2l, 1) := by decide +kernel
theorem d_Lw_law_552 : decode code 552 = .ok (.ldc2_w 66, 3) := by decide +kernel
theorem d_Lw_law_555 : decode code 555 = .ok (.land, 1) := by decide +kernel
theorem d_Lw_law_556 : decode code 556 = .ok (.lor, 1) := by decide +kernel
theorem d_Lw_law_557 : decode code 557 = .ok (.invokevirtual 72, 3) := by decide +kernel
theorem d_Lw_law_560 : decode code 560 = .ok (.if_icmp .eq 67, 3) := by decide +kernel
theorem d_Lw_law_563 : decode code 563 = .ok (.iconst 0, 1) := by decide +kernel
theorem d_Lw_law_564 : decode code 564 = .ok (.ireturn, 1) := by decide +kernel
theorem d_Lw_law_565 : decode code 565 = .ok (.aload_n 1, 1) := by decide +kernel
theorem d_Lw_law_566 : decode code 566 = .ok (.invokevirtual 73, 3) := by decide +kernel
theorem d_Lw_law_569 : decode code 569 = .ok (.aload_n 2, 1) := by decide +kernel
theorem d_Lw_law_570 : decode code 570 = .ok (.invokevirtual 76, 3) := by decide +kernel
theorem d_Lw_law_573 : decode code 573 = .ok (.if_icmp .eq 54, 3) := by decide +kernel
theorem d_Lw_law_576 : decode code 576 = .ok (.iconst 0, 1) := by decide +kernel
theorem d_Lw_law_577 : decode code 577 = .ok (.ireturn, 1) := by decide +kernel
theorem d_Lw_law_578 : decode code 578 = .ok (.aload_n 1, 1) := by decide +kernel
theorem d_Lw_law_579 : decode code 579 = .ok (.invokevirtual 77, 3) := by decide +kernel
theorem d_Lw_law_582 : decode code 582 = .ok (.aload_n 2, 1) := by decide +kernel
theorem d_Lw_law_583 : decode code 583 = .ok (.invokevirtual 80, 3) := by decide +kernel
theorem d_Lw_law_586 : decode code 586 = .ok (.if_icmp .eq 41, 3) := by decide +kernel
theorem d_Lw_law_589 : decode code 589 = .ok (.iconst 0, 1) := by decide +kernel
theorem d_Lw_law_590 : decode code 590 = .ok (.ireturn, 1) := by decide +kernel
theorem d_Lw_law_591 : decode code 591 = .ok (.aload_n 1, 1) := by decide +kernel
theorem d_Lw_law_592 : decode code 592 = .ok (.aload_n 0, 1) := by decide +kernel
theorem d_Lw_law_593 : decode code 593 = .ok (.iload_n 3, 1) := by decide +kernel
theorem d_Lw_law_594 : decode code 594 = .ok (.iconst 1, 1) := by decide +kernel
theorem d_Lw_law_595 : decode code 595 = .ok (.iadd, 1) := by decide +kernel
theorem d_Lw_law_596 : decode code 596 = .ok (.iaload, 1) := by decide +kernel
theorem d_Lw_law_597 : decode code 597 = .ok (.invokevirtual 81, 3) := by decide +kernel
theorem d_Lw_law_600 : decode code 600 = .ok (.aload_n 2, 1) := by decide +kernel
theorem d_Lw_law_601 : decode code 601 = .ok (.aload_n 0, 1) := by decide +kernel
theorem d_Lw_law_602 : decode code 602 = .ok (.iload_n 3, 1) := by decide +kernel
theorem d_Lw_law_603 : decode code 603 = .ok (.iconst 1, 1) := by decide +kernel
theorem d_Lw_law_604 : decode code 604 = .ok (.iadd, 1) := by decide +kernel
theorem d_Lw_law_605 : decode code 605 = .ok (.iaload, 1) := by decide +kernel
theorem d_Lw_law_606 : decode code 606 = .ok (.invokevirtual 84, 3) := by decide +kernel
theorem d_Lw_law_609 : decode code 609 = .ok (.if_icmp .eq 18, 3) := by decide +kernel
theorem d_Lw_law_612 : decode code 612 = .ok (.iconst 0, 1) := by decide +kernel
theorem d_Lw_law_613 : decode code 613 = .ok (.ireturn, 1) := by decide +kernel
theorem d_Lw_law_614 : decode code 614 = .ok (.aload_n 1, 1) := by decide +kernel
theorem d_Lw_law_615 : decode code 615 = .ok (.invokevirtual 85, 3) := by decide +kernel
theorem d_Lw_law_618 : decode code 618 = .ok (.aload_n 2, 1) := by decide +kernel
theorem d_Lw_law_619 : decode code 619 = .ok (.invokevirtual 88, 3) := by decide +kernel
theorem d_Lw_law_622 : decode code 622 = .ok (.if_icmp .eq 5, 3) := by decide +kernel
theorem d_Lw_law_625 : decode code 625 = .ok (.iconst 0, 1) := by decide +kernel
theorem d_Lw_law_626 : decode code 626 = .ok (.ireturn, 1) := by decide +kernel
theorem d_Lw_law_627 : decode code 627 = .ok (.iinc 3 6, 3) := by decide +kernel
theorem d_Lw_law_630 : decode code 630 = .ok (.goto (-612), 3) := by decide +kernel
theorem d_Lw_law_633 : decode code 633 = .ok (.iconst 1, 1) := by decide +kernel
theorem d_Lw_law_634 : decode code 634 = .ok (.ireturn, 1) := by decide +kernel
