theorem dL_law_0 : decode code 0 = .ok (.new 7, 3) := by decide +kernel
theorem dL_law_3 : decode code 3 = .ok (.dup, 1) := by decide +kernel
theorem dL_law_4 : decode code 4 = .ok (.invokespecial 9, 3) := by decide +kernel
theorem dL_law_7 : decode code 7 = .ok (.astore_n 1, 1) := by decide +kernel
theorem dL_law_8 : decode code 8 = .ok (.new 10, 3) := by decide +kernel
theorem dL_law_11 : decode code 11 = .ok (.dup, 1) := by decide +kernel
theorem dL_law_12 : decode code 12 = .ok (.invokespecial 12, 3) := by decide +kernel
theorem dL_law_15 : decode code 15 = .ok (.astore_n 2, 1) := by decide +kernel
theorem dL_law_16 : decode code 16 = .ok (.iconst 0, 1) := by decide +kernel
theorem dL_law_17 : decode code 17 = .ok (.istore_n 3, 1) := by decide +kernel
theorem dL_law_18 : decode code 18 = .ok (.iload_n 3, 1) := by decide +kernel
theorem dL_law_19 : decode code 19 = .ok (.aload_n 0, 1) := by decide +kernel
theorem dL_law_20 : decode code 20 = .ok (.arraylength, 1) := by decide +kernel
theorem dL_law_21 : decode code 21 = .ok (.bipush 6, 2) := by decide +kernel
theorem dL_law_23 : decode code 23 = .ok (.isub, 1) := by decide +kernel
theorem dL_law_24 : decode code 24 = .ok (.if_icmp .gt 474, 3) := by decide +kernel
theorem dL_law_27 : decode code 27 = .ok (.aload_n 0, 1) := by decide +kernel
theorem dL_law_28 : decode code 28 = .ok (.iload_n 3, 1) := by decide +kernel
theorem dL_law_29 : decode code 29 = .ok (.iaload, 1) := by decide +kernel
theorem dL_law_30 : decode code 30 = .ok (.bipush 15, 2) := by decide +kernel
theorem dL_law_32 : decode code 32 = .ok (.iand, 1) := by decide +kernel
theorem dL_law_33 : decode code 33 = .ok (.tableswitch 459 0 11 #[63, 96, 109, 172, 205, 238, 261, 294, 337, 370, 403, 436], 63) := by decide +kernel
theorem dL_law_96 : decode code 96 = .ok (.aload_n 1, 1) := by decide +kernel
theorem dL_law_97 : decode code 97 = .ok (.aload_n 0, 1) := by decide +kernel
theorem dL_law_98 : decode code 98 = .ok (.iload_n 3, 1) := by decide +kernel
theorem dL_law_99 : decode code 99 = .ok (.iconst 1, 1) := by decide +kernel
theorem dL_law_100 : decode code 100 = .ok (.iadd, 1) := by decide +kernel
theorem dL_law_101 : decode code 101 = .ok (.iaload, 1) := by decide +kernel
theorem dL_law_102 : decode code 102 = .ok (.aload_n 0, 1) := by decide +kernel
theorem dL_law_103 : decode code 103 = .ok (.iload_n 3, 1) := by decide +kernel
theorem dL_law_104 : decode code 104 = .ok (.iconst 2, 1) := by decide +kernel
theorem dL_law_105 : decode code 105 = .ok (.iadd, 1) := by decide +kernel
theorem dL_law_106 : decode code 106 = .ok (.iaload, 1) := by decide +kernel
theorem dL_law_107 : decode code 107 = .ok (.invokevirtual 13, 3) := by decide +kernel
theorem dL_law_110 : decode code 110 = .ok (.aload_n 2, 1) := by decide +kernel
theorem dL_law_111 : decode code 111 = .ok (.aload_n 0, 1) := by decide +kernel
theorem dL_law_112 : decode code 112 = .ok (.iload_n 3, 1) := by decide +kernel
theorem dL_law_113 : decode code 113 = .ok (.iconst 1, 1) := by decide +kernel
theorem dL_law_114 : decode code 114 = .ok (.iadd, 1) := by decide +kernel
theorem dL_law_115 : decode code 115 = .ok (.iaload, 1) := by decide +kernel
theorem dL_law_116 : decode code 116 = .ok (.aload_n 0, 1) := by decide +kernel
theorem dL_law_117 : decode code 117 = .ok (.iload_n 3, 1) := by decide +kernel
theorem dL_law_118 : decode code 118 = .ok (.iconst 2, 1) := by decide +kernel
theorem dL_law_119 : decode code 119 = .ok (.iadd, 1) := by decide +kernel
theorem dL_law_120 : decode code 120 = .ok (.iaload, 1) := by decide +kernel
theorem dL_law_121 : decode code 121 = .ok (.invokevirtual 17, 3) := by decide +kernel
theorem dL_law_124 : decode code 124 = .ok (.if_icmp .eq 368, 3) := by decide +kernel
theorem dL_law_127 : decode code 127 = .ok (.iconst 0, 1) := by decide +kernel
theorem dL_law_128 : decode code 128 = .ok (.ireturn, 1) := by decide +kernel
theorem dL_law_129 : decode code 129 = .ok (.aload_n 1, 1) := by decide +kernel
theorem dL_law_130 : decode code 130 = .ok (.invokevirtual 18, 3) := by decide +kernel
theorem dL_law_133 : decode code 133 = .ok (.aload_n 2, 1) := by decide +kernel
theorem dL_law_134 : decode code 134 = .ok (.invokevirtual 22, 3) := by decide +kernel
theorem dL_law_137 : decode code 137 = .ok (.if_icmp .eq 355, 3) := by decide +kernel
theorem dL_law_140 : decode code 140 = .ok (.iconst 0, 1) := by decide +kernel
theorem dL_law_141 : decode code 141 = .ok (.ireturn, 1) := by decide +kernel
theorem dL_law_142 : decode code 142 = .ok (.aload_n 1, 1) := by decide +kernel
theorem dL_law_143 : decode code 143 = .ok (.aload_n 0, 1) := by decide +kernel
theorem dL_law_144 : decode code 144 = .ok (.iload_n 3, 1) := by decide +kernel
theorem dL_law_145 : decode code 145 = .ok (.iconst 1, 1) := by decide +kernel
theorem dL_law_146 : decode code 146 = .ok (.iadd, 1) := by decide +kernel
theorem dL_law_147 : decode code 147 = .ok (.iaload, 1) := by decide +kernel
theorem dL_law_148 : decode code 148 = .ok (.aload_n 0, 1) := by decide +kernel
theorem dL_law_149 : decode code 149 = .ok (.iload_n 3, 1) := by decide +kernel
theorem dL_law_150 : decode code 150 = .ok (.iconst 2, 1) := by decide +kernel
theorem dL_law_151 : decode code 151 = .ok (.iadd, 1) := by decide +kernel
theorem dL_law_152 : decode code 152 = .ok (.iaload, 1) := by decide +kernel
theorem dL_law_153 : decode code 153 = .ok (.aload_n 0, 1) := by decide +kernel
theorem dL_law_154 : decode code 154 = .ok (.iload_n 3, 1) := by decide +kernel
theorem dL_law_155 : decode code 155 = .ok (.iconst 3, 1) := by decide +kernel
theorem dL_law_156 : decode code 156 = .ok (.iadd, 1) := by decide +kernel
theorem dL_law_157 : decode code 157 = .ok (.iaload, 1) := by decide +kernel
theorem dL_law_158 : decode code 158 = .ok (.aload_n 0, 1) := by decide +kernel
theorem dL_law_159 : decode code 159 = .ok (.iload_n 3, 1) := by decide +kernel
theorem dL_law_160 : decode code 160 = .ok (.iconst 4, 1) := by decide +kernel
theorem dL_law_161 : decode code 161 = .ok (.iadd, 1) := by decide +kernel
theorem dL_law_162 : decode code 162 = .ok (.iaload, 1) := by decide +kernel
theorem dL_law_163 : decode code 163 = .ok (.aload_n 0, 1) := by decide +kernel
theorem dL_law_164 : decode code 164 = .ok (.iload_n 3, 1) := by decide +kernel
theorem dL_law_165 : decode code 165 = .ok (.iconst 5, 1) := by decide +kernel
theorem dL_law_166 : decode code 166 = .ok (.iadd, 1) := by decide +kernel
theorem dL_law_167 : decode code 167 = .ok (.iaload, 1) := by decide +kernel
theorem dL_law_168 : decode code 168 = .ok (.invokevirtual 23, 3) := by decide +kernel
theorem dL_law_171 : decode code 171 = .ok (.aload_n 2, 1) := by decide +kernel
theorem dL_law_172 : decode code 172 = .ok (.aload_n 0, 1) := by decide +kernel
theorem dL_law_173 : decode code 173 = .ok (.iload_n 3, 1) := by decide +kernel
theorem dL_law_174 : decode code 174 = .ok (.iconst 1, 1) := by decide +kernel
theorem dL_law_175 : decode code 175 = .ok (.iadd, 1) := by decide +kernel
theorem dL_law_176 : decode code 176 = .ok (.iaload, 1) := by decide +kernel
theorem dL_law_177 : decode code 177 = .ok (.aload_n 0, 1) := by decide +kernel
theorem dL_law_178 : decode code 178 = .ok (.iload_n 3, 1) := by decide +kernel
theorem dL_law_179 : decode code 179 = .ok (.iconst 2, 1) := by decide +kernel
theorem dL_law_180 : decode code 180 = .ok (.iadd, 1) := by decide +kernel
theorem dL_law_181 : decode code 181 = .ok (.iaload, 1) := by decide +kernel
theorem dL_law_182 : decode code 182 = .ok (.aload_n 0, 1) := by decide +kernel
theorem dL_law_183 : decode code 183 = .ok (.iload_n 3, 1) := by decide +kernel
theorem dL_law_184 : decode code 184 = .ok (.iconst 3, 1) := by decide +kernel
theorem dL_law_185 : decode code 185 = .ok (.iadd, 1) := by decide +kernel
theorem dL_law_186 : decode code 186 = .ok (.iaload, 1) := by decide +kernel
theorem dL_law_187 : decode code 187 = .ok (.aload_n 0, 1) := by decide +kernel
theorem dL_law_188 : decode code 188 = .ok (.iload_n 3, 1) := by decide +kernel
theorem dL_law_189 : decode code 189 = .ok (.iconst 4, 1) := by decide +kernel
theorem dL_law_190 : decode code 190 = .ok (.iadd, 1) := by decide +kernel
theorem dL_law_191 : decode code 191 = .ok (.iaload, 1) := by decide +kernel
theorem dL_law_192 : decode code 192 = .ok (.aload_n 0, 1) := by decide +kernel
theorem dL_law_193 : decode code 193 = .ok (.iload_n 3, 1) := by decide +kernel
theorem dL_law_194 : decode code 194 = .ok (.iconst 5, 1) := by decide +kernel
theorem dL_law_195 : decode code 195 = .ok (.iadd, 1) := by decide +kernel
theorem dL_law_196 : decode code 196 = .ok (.iaload, 1) := by decide +kernel
theorem dL_law_197 : decode code 197 = .ok (.invokevirtual 27, 3) := by decide +kernel
theorem dL_law_200 : decode code 200 = .ok (.if_icmp .eq 292, 3) := by decide +kernel
theorem dL_law_203 : decode code 203 = .ok (.iconst 0, 1) := by decide +kernel
theorem dL_law_204 : decode code 204 = .ok (.ireturn, 1) := by decide +kernel
theorem dL_law_205 : decode code 205 = .ok (.aload_n 1, 1) := by decide +kernel
theorem dL_law_206 : decode code 206 = .ok (.aload_n 0, 1) := by decide +kernel
theorem dL_law_207 : decode code 207 = .ok (.iload_n 3, 1) := by decide +kernel
theorem dL_law_208 : decode code 208 = .ok (.iconst 1, 1) := by decide +kernel
theorem dL_law_209 : decode code 209 = .ok (.iadd, 1) := by decide +kernel
theorem dL_law_210 : decode code 210 = .ok (.iaload, 1) := by decide +kernel
theorem dL_law_211 : decode code 211 = .ok (.aload_n 0, 1) := by decide +kernel
theorem dL_law_212 : decode code 212 = .ok (.iload_n 3, 1) := by decide +kernel
theorem dL_law_213 : decode code 213 = .ok (.iconst 2, 1) := by decide +kernel
theorem dL_law_214 : decode code 214 = .ok (.iadd, 1) := by decide +kernel
theorem dL_law_215 : decode code 215 = .ok (.iaload, 1) := by decide +kernel
theorem dL_law_216 : decode code 216 = .ok (.invokevirtual 28, 3) := by decide +kernel
theorem dL_law_219 : decode code 219 = .ok (.aload_n 2, 1) := by decide +kernel
theorem dL_law_220 : decode code 220 = .ok (.aload_n 0, 1) := by decide +kernel
theorem dL_law_221 : decode code 221 = .ok (.iload_n 3, 1) := by decide +kernel
theorem dL_law_222 : decode code 222 = .ok (.iconst 1, 1) := by decide +kernel
theorem dL_law_223 : decode code 223 = .ok (.iadd, 1) := by decide +kernel
theorem dL_law_224 : decode code 224 = .ok (.iaload, 1) := by decide +kernel
theorem dL_law_225 : decode code 225 = .ok (.aload_n 0, 1) := by decide +kernel
theorem dL_law_226 : decode code 226 = .ok (.iload_n 3, 1) := by decide +kernel
theorem dL_law_227 : decode code 227 = .ok (.iconst 2, 1) := by decide +kernel
theorem dL_law_228 : decode code 228 = .ok (.iadd, 1) := by decide +kernel
theorem dL_law_229 : decode code 229 = .ok (.iaload, 1) := by decide +kernel
theorem dL_law_230 : decode code 230 = .ok (.invokevirtual 32, 3) := by decide +kernel
theorem dL_law_233 : decode code 233 = .ok (.if_icmp .eq 259, 3) := by decide +kernel
theorem dL_law_236 : decode code 236 = .ok (.iconst 0, 1) := by decide +kernel
theorem dL_law_237 : decode code 237 = .ok (.ireturn, 1) := by decide +kernel
theorem dL_law_238 : decode code 238 = .ok (.aload_n 1, 1) := by decide +kernel
theorem dL_law_239 : decode code 239 = .ok (.aload_n 0, 1) := by decide +kernel
theorem dL_law_240 : decode code 240 = .ok (.iload_n 3, 1) := by decide +kernel
theorem dL_law_241 : decode code 241 = .ok (.iconst 1, 1) := by decide +kernel
theorem dL_law_242 : decode code 242 = .ok (.iadd, 1) := by decide +kernel
theorem dL_law_243 : decode code 243 = .ok (.iaload, 1) := by decide +kernel
theorem dL_law_244 : decode code 244 = .ok (.aload_n 0, 1) := by decide +kernel
theorem dL_law_245 : decode code 245 = .ok (.iload_n 3, 1) := by decide +kernel
theorem dL_law_246 : decode code 246 = .ok (.iconst 2, 1) := by decide +kernel
theorem dL_law_247 : decode code 247 = .ok (.iadd, 1) := by decide +kernel
theorem dL_law_248 : decode code 248 = .ok (.iaload, 1) := by decide +kernel
theorem dL_law_249 : decode code 249 = .ok (.invokevirtual 33, 3) := by decide +kernel
theorem dL_law_252 : decode code 252 = .ok (.aload_n 2, 1) := by decide +kernel
theorem dL_law_253 : decode code 253 = .ok (.aload_n 0, 1) := by decide +kernel
theorem dL_law_254 : decode code 254 = .ok (.iload_n 3, 1) := by decide +kernel
theorem dL_law_255 : decode code 255 = .ok (.iconst 1, 1) := by decide +kernel
theorem dL_law_256 : decode code 256 = .ok (.iadd, 1) := by decide +kernel
theorem dL_law_257 : decode code 257 = .ok (.iaload, 1) := by decide +kernel
theorem dL_law_258 : decode code 258 = .ok (.aload_n 0, 1) := by decide +kernel
theorem dL_law_259 : decode code 259 = .ok (.iload_n 3, 1) := by decide +kernel
theorem dL_law_260 : decode code 260 = .ok (.iconst 2, 1) := by decide +kernel
theorem dL_law_261 : decode code 261 = .ok (.iadd, 1) := by decide +kernel
theorem dL_law_262 : decode code 262 = .ok (.iaload, 1) := by decide +kernel
theorem dL_law_263 : decode code 263 = .ok (.invokevirtual 36, 3) := by decide +kernel
theorem dL_law_266 : decode code 266 = .ok (.if_icmp .eq 226, 3) := by decide +kernel
theorem dL_law_269 : decode code 269 = .ok (.iconst 0, 1) := by decide +kernel
theorem dL_law_270 : decode code 270 = .ok (.ireturn, 1) := by decide +kernel
theorem dL_law_271 : decode code 271 = .ok (.aload_n 1, 1) := by decide +kernel
theorem dL_law_272 : decode code 272 = .ok (.aload_n 0, 1) := by decide +kernel
theorem dL_law_273 : decode code 273 = .ok (.iload_n 3, 1) := by decide +kernel
theorem dL_law_274 : decode code 274 = .ok (.iconst 1, 1) := by decide +kernel
theorem dL_law_275 : decode code 275 = .ok (.iadd, 1) := by decide +kernel
theorem dL_law_276 : decode code 276 = .ok (.iaload, 1) := by decide +kernel
theorem dL_law_277 : decode code 277 = .ok (.invokevirtual 37, 3) := by decide +kernel
theorem dL_law_280 : decode code 280 = .ok (.aload_n 2, 1) := by decide +kernel
theorem dL_law_281 : decode code 281 = .ok (.aload_n 0, 1) := by decide +kernel
theorem dL_law_282 : decode code 282 = .ok (.iload_n 3, 1) := by decide +kernel
theorem dL_law_283 : decode code 283 = .ok (.iconst 1, 1) := by decide +kernel
theorem dL_law_284 : decode code 284 = .ok (.iadd, 1) := by decide +kernel
theorem dL_law_285 : decode code 285 = .ok (.iaload, 1) := by decide +kernel
theorem dL_law_286 : decode code 286 = .ok (.invokevirtual 41, 3) := by decide +kernel
theorem dL_law_289 : decode code 289 = .ok (.if_icmp .eq 203, 3) := by decide +kernel
theorem dL_law_292 : decode code 292 = .ok (.iconst 0, 1) := by decide +kernel
theorem dL_law_293 : decode code 293 = .ok (.ireturn, 1) := by decide +kernel
theorem dL_law_294 : decode code 294 = .ok (.aload_n 1, 1) := by decide +kernel
theorem dL_law_295 : decode code 295 = .ok (.aload_n 0, 1) := by decide +kernel
theorem dL_law_296 : decode code 296 = .ok (.iload_n 3, 1) := by decide +kernel
theorem dL_law_297 : decode code 297 = .ok (.iconst 1, 1) := by decide +kernel
theorem dL_law_298 : decode code 298 = .ok (.iadd, 1) := by decide +kernel
theorem dL_law_299 : decode code 299 = .ok (.iaload, 1) := by decide +kernel
theorem dL_law_300 : decode code 300 = .ok (.aload_n 0, 1) := by decide +kernel
theorem dL_law_301 : decode code 301 = .ok (.iload_n 3, 1) := by decide +kernel
theorem dL_law_302 : decode code 302 = .ok (.iconst 2, 1) := by decide +kernel
theorem dL_law_303 : decode code 303 = .ok (.iadd, 1) := by decide +kernel
theorem dL_law_304 : decode code 304 = .ok (.iaload, 1) := by decide +kernel
theorem dL_law_305 : decode code 305 = .ok (.invokevirtual 42, 3) := by decide +kernel
theorem dL_law_308 : decode code 308 = .ok (.aload_n 2, 1) := by decide +kernel
theorem dL_law_309 : decode code 309 = .ok (.aload_n 0, 1) := by decide +kernel
theorem dL_law_310 : decode code 310 = .ok (.iload_n 3, 1) := by decide +kernel
theorem dL_law_311 : decode code 311 = .ok (.iconst 1, 1) := by decide +kernel
theorem dL_law_312 : decode code 312 = .ok (.iadd, 1) := by decide +kernel
theorem dL_law_313 : decode code 313 = .ok (.iaload, 1) := by decide +kernel
theorem dL_law_314 : decode code 314 = .ok (.aload_n 0, 1) := by decide +kernel
theorem dL_law_315 : decode code 315 = .ok (.iload_n 3, 1) := by decide +kernel
theorem dL_law_316 : decode code 316 = .ok (.iconst 2, 1) := by decide +kernel
theorem dL_law_317 : decode code 317 = .ok (.iadd, 1) := by decide +kernel
theorem dL_law_318 : decode code 318 = .ok (.iaload, 1) := by decide +kernel
theorem dL_law_319 : decode code 319 = .ok (.invokevirtual 45, 3) := by decide +kernel
theorem dL_law_322 : decode code 322 = .ok (.if_icmp .eq 170, 3) := by decide +kernel
theorem dL_law_325 : decode code 325 = .ok (.iconst 0, 1) := by decide +kernel
theorem dL_law_326 : decode code 326 = .ok (.ireturn, 1) := by decide +kernel
theorem dL_law_327 : decode code 327 = .ok (.aload_n 1, 1) := by decide +kernel
theorem dL_law_328 : decode code 328 = .ok (.aload_n 0, 1) := by decide +kernel
theorem dL_law_329 : decode code 329 = .ok (.iload_n 3, 1) := by decide +kernel
theorem dL_law_330 : decode code 330 = .ok (.iconst 1, 1) := by decide +kernel
theorem dL_law_331 : decode code 331 = .ok (.iadd, 1) := by decide +kernel
theorem dL_law_332 : decode code 332 = .ok (.iaload, 1) := by decide +kernel
theorem dL_law_333 : decode code 333 = .ok (.aload_n 0, 1) := by decide +kernel
theorem dL_law_334 : decode code 334 = .ok (.iload_n 3, 1) := by decide +kernel
theorem dL_law_335 : decode code 335 = .ok (.iconst 2, 1) := by decide +kernel
theorem dL_law_336 : decode code 336 = .ok (.iadd, 1) := by decide +kernel
theorem dL_law_337 : decode code 337 = .ok (.iaload, 1) := by decide +kernel
theorem dL_law_338 : decode code 338 = .ok (.aload_n 0, 1) := by decide +kernel
theorem dL_law_339 : decode code 339 = .ok (.iload_n 3, 1) := by decide +kernel
theorem dL_law_340 : decode code 340 = .ok (.iconst 3, 1) := by decide +kernel
theorem dL_law_341 : decode code 341 = .ok (.iadd, 1) := by decide +kernel
theorem dL_law_342 : decode code 342 = .ok (.iaload, 1) := by decide +kernel
theorem dL_law_343 : decode code 343 = .ok (.invokevirtual 46, 3) := by decide +kernel
theorem dL_law_346 : decode code 346 = .ok (.aload_n 2, 1) := by decide +kernel
theorem dL_law_347 : decode code 347 = .ok (.aload_n 0, 1) := by decide +kernel
theorem dL_law_348 : decode code 348 = .ok (.iload_n 3, 1) := by decide +kernel
theorem dL_law_349 : decode code 349 = .ok (.iconst 1, 1) := by decide +kernel
theorem dL_law_350 : decode code 350 = .ok (.iadd, 1) := by decide +kernel
theorem dL_law_351 : decode code 351 = .ok (.iaload, 1) := by decide +kernel
theorem dL_law_352 : decode code 352 = .ok (.aload_n 0, 1) := by decide +kernel
theorem dL_law_353 : decode code 353 = .ok (.iload_n 3, 1) := by decide +kernel
theorem dL_law_354 : decode code 354 = .ok (.iconst 2, 1) := by decide +kernel
theorem dL_law_355 : decode code 355 = .ok (.iadd, 1) := by decide +kernel
theorem dL_law_356 : decode code 356 = .ok (.iaload, 1) := by decide +kernel
theorem dL_law_357 : decode code 357 = .ok (.aload_n 0, 1) := by decide +kernel
theorem dL_law_358 : decode code 358 = .ok (.iload_n 3, 1) := by decide +kernel
theorem dL_law_359 : decode code 359 = .ok (.iconst 3, 1) := by decide +kernel
theorem dL_law_360 : decode code 360 = .ok (.iadd, 1) := by decide +kernel
theorem dL_law_361 : decode code 361 = .ok (.iaload, 1) := by decide +kernel
theorem dL_law_362 : decode code 362 = .ok (.invokevirtual 50, 3) := by decide +kernel
theorem dL_law_365 : decode code 365 = .ok (.if_icmp .eq 127, 3) := by decide +kernel
theorem dL_law_368 : decode code 368 = .ok (.iconst 0, 1) := by decide +kernel
theorem dL_law_369 : decode code 369 = .ok (.ireturn, 1) := by decide +kernel
theorem dL_law_370 : decode code 370 = .ok (.aload_n 1, 1) := by decide +kernel
theorem dL_law_371 : decode code 371 = .ok (.aload_n 0, 1) := by decide +kernel
theorem dL_law_372 : decode code 372 = .ok (.iload_n 3, 1) := by decide +kernel
theorem dL_law_373 : decode code 373 = .ok (.iconst 1, 1) := by decide +kernel
theorem dL_law_374 : decode code 374 = .ok (.iadd, 1) := by decide +kernel
theorem dL_law_375 : decode code 375 = .ok (.iaload, 1) := by decide +kernel
theorem dL_law_376 : decode code 376 = .ok (.aload_n 0, 1) := by decide +kernel
theorem dL_law_377 : decode code 377 = .ok (.iload_n 3, 1) := by decide +kernel
theorem dL_law_378 : decode code 378 = .ok (.iconst 2, 1) := by decide +kernel
theorem dL_law_379 : decode code 379 = .ok (.iadd, 1) := by decide +kernel
theorem dL_law_380 : decode code 380 = .ok (.iaload, 1) := by decide +kernel
theorem dL_law_381 : decode code 381 = .ok (.invokevirtual 51, 3) := by decide +kernel
theorem dL_law_384 : decode code 384 = .ok (.aload_n 2, 1) := by decide +kernel
theorem dL_law_385 : decode code 385 = .ok (.aload_n 0, 1) := by decide +kernel
theorem dL_law_386 : decode code 386 = .ok (.iload_n 3, 1) := by decide +kernel
theorem dL_law_387 : decode code 387 = .ok (.iconst 1, 1) := by decide +kernel
theorem dL_law_388 : decode code 388 = .ok (.iadd, 1) := by decide +kernel
theorem dL_law_389 : decode code 389 = .ok (.iaload, 1) := by decide +kernel
theorem dL_law_390 : decode code 390 = .ok (.aload_n 0, 1) := by decide +kernel
theorem dL_law_391 : decode code 391 = .ok (.iload_n 3, 1) := by decide +kernel
theorem dL_law_392 : decode code 392 = .ok (.iconst 2, 1) := by decide +kernel
theorem dL_law_393 : decode code 393 = .ok (.iadd, 1) := by decide +kernel
theorem dL_law_394 : decode code 394 = .ok (.iaload, 1) := by decide +kernel
theorem dL_law_395 : decode code 395 = .ok (.invokevirtual 54, 3) := by decide +kernel
theorem dL_law_398 : decode code 398 = .ok (.if_icmp .eq 94, 3) := by decide +kernel
theorem dL_law_401 : decode code 401 = .ok (.iconst 0, 1) := by decide +kernel
theorem dL_law_402 : decode code 402 = .ok (.ireturn, 1) := by decide +kernel
theorem dL_law_403 : decode code 403 = .ok (.aload_n 1, 1) := by decide +kernel
theorem dL_law_404 : decode code 404 = .ok (.aload_n 0, 1) := by decide +kernel
theorem dL_law_405 : decode code 405 = .ok (.iload_n 3, 1) := by decide +kernel
theorem dL_law_406 : decode code 406 = .ok (.iconst 1, 1) := by decide +kernel
theorem dL_law_407 : decode code 407 = .ok (.iadd, 1) := by decide +kernel
theorem dL_law_408 : decode code 408 = .ok (.iaload, 1) := by decide +kernel
theorem dL_law_409 : decode code 409 = .ok (.aload_n 0, 1) := by decide +kernel
theorem dL_law_410 : decode code 410 = .ok (.iload_n 3, 1) := by decide +kernel
theorem dL_law_411 : decode code 411 = .ok (.iconst 2, 1) := by decide +kernel
theorem dL_law_412 : decode code 412 = .ok (.iadd, 1) := by decide +kernel
theorem dL_law_413 : decode code 413 = .ok (.iaload, 1) := by decide +kernel
theorem dL_law_414 : decode code 414 = .ok (.invokevirtual 55, 3) := by decide +kernel
theorem dL_law_417 : decode code 417 = .ok (.aload_n 2, 1) := by decide +kernel
theorem dL_law_418 : decode code 418 = .ok (.aload_n 0, 1) := by decide +kernel
theorem dL_law_419 : decode code 419 = .ok (.iload_n 3, 1) := by decide +kernel
theorem dL_law_420 : decode code 420 = .ok (.iconst 1, 1) := by decide +kernel
theorem dL_law_421 : decode code 421 = .ok (.iadd, 1) := by decide +kernel
theorem dL_law_422 : decode code 422 = .ok (.iaload, 1) := by decide +kernel
theorem dL_law_423 : decode code 423 = .ok (.aload_n 0, 1) := by decide +kernel
theorem dL_law_424 : decode code 424 = .ok (.iload_n 3, 1) := by decide +kernel
theorem dL_law_425 : decode code 425 = .ok (.iconst 2, 1) := by decide +kernel
theorem dL_law_426 : decode code 426 = .ok (.iadd, 1) := by decide +kernel
theorem dL_law_427 : decode code 427 = .ok (.iaload, 1) := by decide +kernel
theorem dL_law_428 : decode code 428 = .ok (.invokevirtual 58, 3) := by decide +kernel
theorem dL_law_431 : decode code 431 = .ok (.if_icmp .eq 61, 3) := by decide +kernel
theorem dL_law_434 : decode code 434 = .ok (.iconst 0, 1) := by decide +kernel
theorem dL_law_435 : decode code 435 = .ok (.ireturn, 1) := by decide +kernel
theorem dL_law_436 : decode code 436 = .ok (.aload_n 1, 1) := by decide +kernel
theorem dL_law_437 : decode code 437 = .ok (.aload_n 0, 1) := by decide +kernel
theorem dL_law_438 : decode code 438 = .ok (.iload_n 3, 1) := by decide +kernel
theorem dL_law_439 : decode code 439 = .ok (.iconst 1, 1) := by decide +kernel
theorem dL_law_440 : decode code 440 = .ok (.iadd, 1) := by decide +kernel
theorem dL_law_441 : decode code 441 = .ok (.iaload, 1) := by decide +kernel
theorem dL_law_442 : decode code 442 = .ok (.aload_n 0, 1) := by decide +kernel
theorem dL_law_443 : decode code 443 = .ok (.iload_n 3, 1) := by decide +kernel
theorem dL_law_444 : decode code 444 = .ok (.iconst 2, 1) := by decide +kernel
theorem dL_law_445 : decode code 445 = .ok (.iadd, 1) := by decide +kernel
theorem dL_law_446 : decode code 446 = .ok (.iaload, 1) := by decide +kernel
theorem dL_law_447 : decode code 447 = .ok (.invokevirtual 59, 3) := by decide +kernel
theorem dL_law_450 : decode code 450 = .ok (.aload_n 2, 1) := by decide +kernel
theorem dL_law_451 : decode code 451 = .ok (.aload_n 0, 1) := by decide +kernel
theorem dL_law_452 : decode code 452 = .ok (.iload_n 3, 1) := by decide +kernel
theorem dL_law_453 : decode code 453 = .ok (.iconst 1, 1) := by decide +kernel
theorem dL_law_454 : decode code 454 = .ok (.iadd, 1) := by decide +kernel
theorem dL_law_455 : decode code 455 = .ok (.iaload, 1) := by decide +kernel
theorem dL_law_456 : decode code 456 = .ok (.aload_n 0, 1) := by decide +kernel
theorem dL_law_457 : decode code 457 = .ok (.iload_n 3, 1) := by decide +kernel
theorem dL_law_458 : decode code 458 = .ok (.iconst 2, 1) := by decide +kernel
theorem dL_law_459 : decode code 459 = .ok (.iadd, 1) := by decide +kernel
theorem dL_law_460 : decode code 460 = .ok (.iaload, 1) := by decide +kernel
theorem dL_law_461 : decode code 461 = .ok (.invokevirtual 62, 3) := by decide +kernel
theorem dL_law_464 : decode code 464 = .ok (.if_icmp .eq 28, 3) := by decide +kernel
theorem dL_law_467 : decode code 467 = .ok (.iconst 0, 1) := by decide +kernel
theorem dL_law_468 : decode code 468 = .ok (.ireturn, 1) := by decide +kernel
theorem dL_law_469 : decode code 469 = .ok (.aload_n 1, 1) := by decide +kernel
theorem dL_law_470 : decode code 470 = .ok (.aload_n 0, 1) := by decide +kernel
theorem dL_law_471 : decode code 471 = .ok (.iload_n 3, 1) := by decide +kernel
theorem dL_law_472 : decode code 472 = .ok (.iconst 1, 1) := by decide +kernel
theorem dL_law_473 : decode code 473 = .ok (.iadd, 1) := by decide +kernel
theorem dL_law_474 : decode code 474 = .ok (.iaload, 1) := by decide +kernel
theorem dL_law_475 : decode code 475 = .ok (.invokevirtual 63, 3) := by decide +kernel
theorem dL_law_478 : decode code 478 = .ok (.aload_n 2, 1) := by decide +kernel
theorem dL_law_479 : decode code 479 = .ok (.aload_n 0, 1) := by decide +kernel
theorem dL_law_480 : decode code 480 = .ok (.iload_n 3, 1) := by decide +kernel
theorem dL_law_481 : decode code 481 = .ok (.iconst 1, 1) := by decide +kernel
theorem dL_law_482 : decode code 482 = .ok (.iadd, 1) := by decide +kernel
theorem dL_law_483 : decode code 483 = .ok (.iaload, 1) := by decide +kernel
theorem dL_law_484 : decode code 484 = .ok (.invokevirtual 66, 3) := by decide +kernel
theorem dL_law_487 : decode code 487 = .ok (.if_icmp .eq 5, 3) := by decide +kernel
theorem dL_law_490 : decode code 490 = .ok (.iconst 0, 1) := by decide +kernel
theorem dL_law_491 : decode code 491 = .ok (.ireturn, 1) := by decide +kernel
theorem dL_law_492 : decode code 492 = .ok (.iinc 3 6, 3) := by decide +kernel
theorem dL_law_495 : decode code 495 = .ok (.goto (-477), 3) := by decide +kernel
theorem dL_law_498 : decode code 498 = .ok (.iconst 1, 1) := by decide +kernel
theorem dL_law_499 : decode code 499 = .ok (.ireturn, 1) := by decide +kernel
noncomputable def kL_law_0 (n : Nat) (K : Nat → jK) : jK := jk_new 10 9 [0, 2, 4] <| jk_dup <| jk_icall (fX11_init n) 0 <| jk_astore 1 <| jk_new 11 39 [3, 4, 5, 6, 7, 8, 9, 10, 11, 12, 13, 14, 15, 16, 17, 18, 19, 20, 21, 22, 23, 24, 25, 26, 27, 28, 29, 30, 31, 32, 33, 34, 35, 36] <| jk_dup <| jk_icall (fX12_init n) 0 <| jk_astore 2 <| jk_int 0 <| jk_istore 3 <| K 18
set_option maxRecDepth 100000 in
set_option maxHeartbeats 4000000 in
theorem tL_law_0 (l : Launch) (nm : String) (n : Nat) {K : Nat → jK} (hK : ∀ b, jr_D l code 4 "MeetingKitLaw" (some .boolean) nm 12 456 (K b) b) : jr_D l code 4 "MeetingKitLaw" (some .boolean) nm 12 456 (kL_law_0 n K) 0 := by
  unfold kL_law_0
  refine js_new (C := "MeetingKit") (T := TX11) (ty := tyX11) dL_law_0 rfl (by decide) tyX11_ok (by decide) tw_116 tw_117 tw_102 ?_
  refine js_dup dL_law_3 ?_
  refine js_calli (sX11_init l n) dL_law_4 (by decide) (by decide) tw_118 tw_119 tw_102 tw_120 rfl (by decide +kernel) ?_
  refine js_astore_n dL_law_7 (by decide) ?_
  refine js_new (C := "MeetingKitModel") (T := TX12) (ty := tyX12) dL_law_8 rfl (by decide) tyX12_ok (by decide) tw_956 tw_957 tw_103 ?_
  refine js_dup dL_law_11 ?_
  refine js_calli (sX12_init l n) dL_law_12 (by decide) (by decide) tw_958 tw_959 tw_103 tw_960 rfl (by decide +kernel) ?_
  refine js_astore_n dL_law_15 (by decide) ?_
  refine js_iconst dL_law_16 ?_
  refine js_istore_n dL_law_17 (by decide) ?_
  exact hK 18
noncomputable def kL_law_18 (n : Nat) (K : Nat → jK) : jK := jk_iload 3 <| jk_aload 0 <| jk_alen <| jk_int 6 <| jk_isub <| jk_icmpgt (jk_int 1 <| jk_zret) <| jk_aload 0 <| jk_iload 3 <| jk_iald <| jk_int 15 <| jk_and15 <| jk_sw [(0, (jk_aload 1 <| jk_aload 0 <| jk_iload 3 <| jk_int 1 <| jk_iadd <| jk_iald <| jk_aload 0 <| jk_iload 3 <| jk_int 2 <| jk_iadd <| jk_iald <| jk_vcall [(10, fX11_device n)] 2 <| jk_aload 2 <| jk_aload 0 <| jk_iload 3 <| jk_int 1 <| jk_iadd <| jk_iald <| jk_aload 0 <| jk_iload 3 <| jk_int 2 <| jk_iadd <| jk_iald <| jk_vcall [(11, fX12_device n)] 2 <| jk_icmpeq (K 492) <| jk_int 0 <| jk_zret)), (1, (jk_aload 1 <| jk_vcall [(10, fX11_thread n)] 0 <| jk_aload 2 <| jk_vcall [(11, fX12_thread n)] 0 <| jk_icmpeq (K 492) <| jk_int 0 <| jk_zret)), (2, (jk_aload 1 <| jk_aload 0 <| jk_iload 3 <| jk_int 1 <| jk_iadd <| jk_iald <| jk_aload 0 <| jk_iload 3 <| jk_int 2 <| jk_iadd <| jk_iald <| jk_aload 0 <| jk_iload 3 <| jk_int 3 <| jk_iadd <| jk_iald <| jk_aload 0 <| jk_iload 3 <| jk_int 4 <| jk_iadd <| jk_iald <| jk_aload 0 <| jk_iload 3 <| jk_int 5 <| jk_iadd <| jk_iald <| jk_vcall [(10, fX11_step n)] 5 <| jk_aload 2 <| jk_aload 0 <| jk_iload 3 <| jk_int 1 <| jk_iadd <| jk_iald <| jk_aload 0 <| jk_iload 3 <| jk_int 2 <| jk_iadd <| jk_iald <| jk_aload 0 <| jk_iload 3 <| jk_int 3 <| jk_iadd <| jk_iald <| jk_aload 0 <| jk_iload 3 <| jk_int 4 <| jk_iadd <| jk_iald <| jk_aload 0 <| jk_iload 3 <| jk_int 5 <| jk_iadd <| jk_iald <| jk_vcall [(11, fX12_step n)] 5 <| jk_icmpeq (K 492) <| jk_int 0 <| jk_zret)), (3, (jk_aload 1 <| jk_aload 0 <| jk_iload 3 <| jk_int 1 <| jk_iadd <| jk_iald <| jk_aload 0 <| jk_iload 3 <| jk_int 2 <| jk_iadd <| jk_iald <| jk_vcall [(10, fX11_interrupt n)] 2 <| jk_aload 2 <| jk_aload 0 <| jk_iload 3 <| jk_int 1 <| jk_iadd <| jk_iald <| jk_aload 0 <| jk_iload 3 <| jk_int 2 <| jk_iadd <| jk_iald <| jk_vcall [(11, fX12_interrupt n)] 2 <| jk_icmpeq (K 492) <| jk_int 0 <| jk_zret)), (4, (jk_aload 1 <| jk_aload 0 <| jk_iload 3 <| jk_int 1 <| jk_iadd <| jk_iald <| jk_aload 0 <| jk_iload 3 <| jk_int 2 <| jk_iadd <| jk_iald <| jk_vcall [(10, fX11_close n)] 2 <| jk_aload 2 <| jk_aload 0 <| jk_iload 3 <| jk_int 1 <| jk_iadd <| jk_iald <| jk_aload 0 <| jk_iload 3 <| jk_int 2 <| jk_iadd <| jk_iald <| jk_vcall [(11, fX12_close n)] 2 <| jk_icmpeq (K 492) <| jk_int 0 <| jk_zret)), (5, (jk_aload 1 <| jk_aload 0 <| jk_iload 3 <| jk_int 1 <| jk_iadd <| jk_iald <| jk_vcall [(10, fX11_run n)] 1 <| jk_aload 2 <| jk_aload 0 <| jk_iload 3 <| jk_int 1 <| jk_iadd <| jk_iald <| jk_vcall [(11, fX12_run n)] 1 <| jk_icmpeq (K 492) <| jk_int 0 <| jk_zret)), (6, (jk_aload 1 <| jk_aload 0 <| jk_iload 3 <| jk_int 1 <| jk_iadd <| jk_iald <| jk_aload 0 <| jk_iload 3 <| jk_int 2 <| jk_iadd <| jk_iald <| jk_vcall [(10, fX11_tell n)] 2 <| jk_aload 2 <| jk_aload 0 <| jk_iload 3 <| jk_int 1 <| jk_iadd <| jk_iald <| jk_aload 0 <| jk_iload 3 <| jk_int 2 <| jk_iadd <| jk_iald <| jk_vcall [(11, fX12_tell n)] 2 <| jk_icmpeq (K 492) <| jk_int 0 <| jk_zret)), (7, (jk_aload 1 <| jk_aload 0 <| jk_iload 3 <| jk_int 1 <| jk_iadd <| jk_iald <| jk_aload 0 <| jk_iload 3 <| jk_int 2 <| jk_iadd <| jk_iald <| jk_aload 0 <| jk_iload 3 <| jk_int 3 <| jk_iadd <| jk_iald <| jk_vcall [(10, fX11_outcome n)] 3 <| jk_aload 2 <| jk_aload 0 <| jk_iload 3 <| jk_int 1 <| jk_iadd <| jk_iald <| jk_aload 0 <| jk_iload 3 <| jk_int 2 <| jk_iadd <| jk_iald <| jk_aload 0 <| jk_iload 3 <| jk_int 3 <| jk_iadd <| jk_iald <| jk_vcall [(11, fX12_outcome n)] 3 <| jk_icmpeq (K 492) <| jk_int 0 <| jk_zret)), (8, (jk_aload 1 <| jk_aload 0 <| jk_iload 3 <| jk_int 1 <| jk_iadd <| jk_iald <| jk_aload 0 <| jk_iload 3 <| jk_int 2 <| jk_iadd <| jk_iald <| jk_vcall [(10, fX11_state n)] 2 <| jk_aload 2 <| jk_aload 0 <| jk_iload 3 <| jk_int 1 <| jk_iadd <| jk_iald <| jk_aload 0 <| jk_iload 3 <| jk_int 2 <| jk_iadd <| jk_iald <| jk_vcall [(11, fX12_state n)] 2 <| jk_icmpeq (K 492) <| jk_int 0 <| jk_zret)), (9, (jk_aload 1 <| jk_aload 0 <| jk_iload 3 <| jk_int 1 <| jk_iadd <| jk_iald <| jk_aload 0 <| jk_iload 3 <| jk_int 2 <| jk_iadd <| jk_iald <| jk_vcall [(10, fX11_waiting n)] 2 <| jk_aload 2 <| jk_aload 0 <| jk_iload 3 <| jk_int 1 <| jk_iadd <| jk_iald <| jk_aload 0 <| jk_iload 3 <| jk_int 2 <| jk_iadd <| jk_iald <| jk_vcall [(11, fX12_waiting n)] 2 <| jk_icmpeq (K 492) <| jk_int 0 <| jk_zret)), (10, (jk_aload 1 <| jk_aload 0 <| jk_iload 3 <| jk_int 1 <| jk_iadd <| jk_iald <| jk_aload 0 <| jk_iload 3 <| jk_int 2 <| jk_iadd <| jk_iald <| jk_vcall [(10, fX11_passed n)] 2 <| jk_aload 2 <| jk_aload 0 <| jk_iload 3 <| jk_int 1 <| jk_iadd <| jk_iald <| jk_aload 0 <| jk_iload 3 <| jk_int 2 <| jk_iadd <| jk_iald <| jk_vcall [(11, fX12_passed n)] 2 <| jk_icmpeq (K 492) <| jk_int 0 <| jk_zret)), (11, (jk_aload 1 <| jk_aload 0 <| jk_iload 3 <| jk_int 1 <| jk_iadd <| jk_iald <| jk_vcall [(10, fX11_stuck n)] 1 <| jk_aload 2 <| jk_aload 0 <| jk_iload 3 <| jk_int 1 <| jk_iadd <| jk_iald <| jk_vcall [(11, fX12_stuck n)] 1 <| jk_icmpeq (K 492) <| jk_int 0 <| jk_zret))] (K 492)
set_option maxRecDepth 100000 in
set_option maxHeartbeats 4000000 in
theorem tL_law_18 (l : Launch) (nm : String) (n : Nat) {K : Nat → jK} (hK : ∀ b, jr_D l code 4 "MeetingKitLaw" (some .boolean) nm 12 456 (K b) b) : jr_D l code 4 "MeetingKitLaw" (some .boolean) nm 12 456 (kL_law_18 n K) 18 := by
  unfold kL_law_18
  refine js_iload_n dL_law_18 ?_
  refine js_aload_n dL_law_19 ?_
  refine js_alen dL_law_20 ?_
  refine js_bipush dL_law_21 ?_
  refine js_isub dL_law_23 ?_
  refine js_icmpgt (tgt := 498) dL_law_24 (by decide) ?_ ?_
  · refine js_iconst dL_law_498 ?_
    exact js_zret dL_law_499 rfl
  · refine js_aload_n dL_law_27 ?_
    refine js_iload_n dL_law_28 ?_
    refine js_iald dL_law_29 ?_
    refine js_bipush dL_law_30 ?_
    refine js_and15 dL_law_32 ?_
    refine js_tsw (td := 492) dL_law_33 rfl (by decide) ?_ ?_
    · exact hK 492
    · refine ⟨rfl, ⟨96, by decide, ?_⟩, rfl, ⟨129, by decide, ?_⟩, rfl, ⟨142, by decide, ?_⟩, rfl, ⟨205, by decide, ?_⟩, rfl, ⟨238, by decide, ?_⟩, rfl, ⟨271, by decide, ?_⟩, rfl, ⟨294, by decide, ?_⟩, rfl, ⟨327, by decide, ?_⟩, rfl, ⟨370, by decide, ?_⟩, rfl, ⟨403, by decide, ?_⟩, rfl, ⟨436, by decide, ?_⟩, rfl, ⟨469, by decide, ?_⟩, trivial⟩
      · refine js_aload_n dL_law_96 ?_
        refine js_aload_n dL_law_97 ?_
        refine js_iload_n dL_law_98 ?_
        refine js_iconst dL_law_99 ?_
        refine js_iadd dL_law_100 ?_
        refine js_iald dL_law_101 ?_
        refine js_aload_n dL_law_102 ?_
        refine js_iload_n dL_law_103 ?_
        refine js_iconst dL_law_104 ?_
        refine js_iadd dL_law_105 ?_
        refine js_iald dL_law_106 ?_
        refine js_callv dL_law_107 (⟨⟨_, _, _, _, _, _, _, ⟨rfl, (show (10 : Nat) < 20 by decide), sX11_device l n, by decide, by decide, tw_160, tw_102, tw_158⟩, Or.inl ⟨by decide +kernel, by decide +kernel, by decide +kernel, tw_157, tw_159⟩⟩, trivial⟩) ?_
        refine js_aload_n dL_law_110 ?_
        refine js_aload_n dL_law_111 ?_
        refine js_iload_n dL_law_112 ?_
        refine js_iconst dL_law_113 ?_
        refine js_iadd dL_law_114 ?_
        refine js_iald dL_law_115 ?_
        refine js_aload_n dL_law_116 ?_
        refine js_iload_n dL_law_117 ?_
        refine js_iconst dL_law_118 ?_
        refine js_iadd dL_law_119 ?_
        refine js_iald dL_law_120 ?_
        refine js_callv dL_law_121 (⟨⟨_, _, _, _, _, _, _, ⟨rfl, (show (11 : Nat) < 20 by decide), sX12_device l n, by decide, by decide, tw_1084, tw_103, tw_1082⟩, Or.inl ⟨by decide +kernel, by decide +kernel, by decide +kernel, tw_1081, tw_1083⟩⟩, trivial⟩) ?_
        refine js_icmpeq (tgt := 492) dL_law_124 (by decide) ?_ ?_
        · exact hK 492
        · refine js_iconst dL_law_127 ?_
          exact js_zret dL_law_128 rfl
      · refine js_aload_n dL_law_129 ?_
        refine js_callv dL_law_130 (⟨⟨_, _, _, _, _, _, _, ⟨rfl, (show (10 : Nat) < 20 by decide), sX11_thread l n, by decide, by decide, tw_388, tw_102, tw_386⟩, Or.inl ⟨by decide +kernel, by decide +kernel, by decide +kernel, tw_385, tw_387⟩⟩, trivial⟩) ?_
        refine js_aload_n dL_law_133 ?_
        refine js_callv dL_law_134 (⟨⟨_, _, _, _, _, _, _, ⟨rfl, (show (11 : Nat) < 20 by decide), sX12_thread l n, by decide, by decide, tw_1094, tw_103, tw_1092⟩, Or.inl ⟨by decide +kernel, by decide +kernel, by decide +kernel, tw_1091, tw_1093⟩⟩, trivial⟩) ?_
        refine js_icmpeq (tgt := 492) dL_law_137 (by decide) ?_ ?_
        · exact hK 492
        · refine js_iconst dL_law_140 ?_
          exact js_zret dL_law_141 rfl
      · refine js_aload_n dL_law_142 ?_
        refine js_aload_n dL_law_143 ?_
        refine js_iload_n dL_law_144 ?_
        refine js_iconst dL_law_145 ?_
        refine js_iadd dL_law_146 ?_
        refine js_iald dL_law_147 ?_
        refine js_aload_n dL_law_148 ?_
        refine js_iload_n dL_law_149 ?_
        refine js_iconst dL_law_150 ?_
        refine js_iadd dL_law_151 ?_
        refine js_iald dL_law_152 ?_
        refine js_aload_n dL_law_153 ?_
        refine js_iload_n dL_law_154 ?_
        refine js_iconst dL_law_155 ?_
        refine js_iadd dL_law_156 ?_
        refine js_iald dL_law_157 ?_
        refine js_aload_n dL_law_158 ?_
        refine js_iload_n dL_law_159 ?_
        refine js_iconst dL_law_160 ?_
        refine js_iadd dL_law_161 ?_
        refine js_iald dL_law_162 ?_
        refine js_aload_n dL_law_163 ?_
        refine js_iload_n dL_law_164 ?_
        refine js_iconst dL_law_165 ?_
        refine js_iadd dL_law_166 ?_
        refine js_iald dL_law_167 ?_
        refine js_callv dL_law_168 (⟨⟨_, _, _, _, _, _, _, ⟨rfl, (show (10 : Nat) < 20 by decide), sX11_step l n, by decide, by decide, tw_431, tw_102, tw_429⟩, Or.inl ⟨by decide +kernel, by decide +kernel, by decide +kernel, tw_428, tw_430⟩⟩, trivial⟩) ?_
        refine js_aload_n dL_law_171 ?_
        refine js_aload_n dL_law_172 ?_
        refine js_iload_n dL_law_173 ?_
        refine js_iconst dL_law_174 ?_
        refine js_iadd dL_law_175 ?_
        refine js_iald dL_law_176 ?_
        refine js_aload_n dL_law_177 ?_
        refine js_iload_n dL_law_178 ?_
        refine js_iconst dL_law_179 ?_
        refine js_iadd dL_law_180 ?_
        refine js_iald dL_law_181 ?_
        refine js_aload_n dL_law_182 ?_
        refine js_iload_n dL_law_183 ?_
        refine js_iconst dL_law_184 ?_
        refine js_iadd dL_law_185 ?_
        refine js_iald dL_law_186 ?_
        refine js_aload_n dL_law_187 ?_
        refine js_iload_n dL_law_188 ?_
        refine js_iconst dL_law_189 ?_
        refine js_iadd dL_law_190 ?_
        refine js_iald dL_law_191 ?_
        refine js_aload_n dL_law_192 ?_
        refine js_iload_n dL_law_193 ?_
        refine js_iconst dL_law_194 ?_
        refine js_iadd dL_law_195 ?_
        refine js_iald dL_law_196 ?_
        refine js_callv dL_law_197 (⟨⟨_, _, _, _, _, _, _, ⟨rfl, (show (11 : Nat) < 20 by decide), sX12_step l n, by decide, by decide, tw_1098, tw_103, tw_1096⟩, Or.inl ⟨by decide +kernel, by decide +kernel, by decide +kernel, tw_1095, tw_1097⟩⟩, trivial⟩) ?_
        refine js_icmpeq (tgt := 492) dL_law_200 (by decide) ?_ ?_
        · exact hK 492
        · refine js_iconst dL_law_203 ?_
          exact js_zret dL_law_204 rfl
      · refine js_aload_n dL_law_205 ?_
        refine js_aload_n dL_law_206 ?_
        refine js_iload_n dL_law_207 ?_
        refine js_iconst dL_law_208 ?_
        refine js_iadd dL_law_209 ?_
        refine js_iald dL_law_210 ?_
        refine js_aload_n dL_law_211 ?_
        refine js_iload_n dL_law_212 ?_
        refine js_iconst dL_law_213 ?_
        refine js_iadd dL_law_214 ?_
        refine js_iald dL_law_215 ?_
        refine js_callv dL_law_216 (⟨⟨_, _, _, _, _, _, _, ⟨rfl, (show (10 : Nat) < 20 by decide), sX11_interrupt l n, by decide, by decide, tw_518, tw_102, tw_516⟩, Or.inl ⟨by decide +kernel, by decide +kernel, by decide +kernel, tw_515, tw_517⟩⟩, trivial⟩) ?_
        refine js_aload_n dL_law_219 ?_
        refine js_aload_n dL_law_220 ?_
        refine js_iload_n dL_law_221 ?_
        refine js_iconst dL_law_222 ?_
        refine js_iadd dL_law_223 ?_
        refine js_iald dL_law_224 ?_
        refine js_aload_n dL_law_225 ?_
        refine js_iload_n dL_law_226 ?_
        refine js_iconst dL_law_227 ?_
        refine js_iadd dL_law_228 ?_
        refine js_iald dL_law_229 ?_
        refine js_callv dL_law_230 (⟨⟨_, _, _, _, _, _, _, ⟨rfl, (show (11 : Nat) < 20 by decide), sX12_interrupt l n, by decide, by decide, tw_1104, tw_103, tw_1102⟩, Or.inl ⟨by decide +kernel, by decide +kernel, by decide +kernel, tw_1101, tw_1103⟩⟩, trivial⟩) ?_
        refine js_icmpeq (tgt := 492) dL_law_233 (by decide) ?_ ?_
        · exact hK 492
        · refine js_iconst dL_law_236 ?_
          exact js_zret dL_law_237 rfl
      · refine js_aload_n dL_law_238 ?_
        refine js_aload_n dL_law_239 ?_
        refine js_iload_n dL_law_240 ?_
        refine js_iconst dL_law_241 ?_
        refine js_iadd dL_law_242 ?_
        refine js_iald dL_law_243 ?_
        refine js_aload_n dL_law_244 ?_
        refine js_iload_n dL_law_245 ?_
        refine js_iconst dL_law_246 ?_
        refine js_iadd dL_law_247 ?_
        refine js_iald dL_law_248 ?_
        refine js_callv dL_law_249 (⟨⟨_, _, _, _, _, _, _, ⟨rfl, (show (10 : Nat) < 20 by decide), sX11_close l n, by decide, by decide, tw_530, tw_102, tw_528⟩, Or.inl ⟨by decide +kernel, by decide +kernel, by decide +kernel, tw_527, tw_529⟩⟩, trivial⟩) ?_
        refine js_aload_n dL_law_252 ?_
        refine js_aload_n dL_law_253 ?_
        refine js_iload_n dL_law_254 ?_
        refine js_iconst dL_law_255 ?_
        refine js_iadd dL_law_256 ?_
        refine js_iald dL_law_257 ?_
        refine js_aload_n dL_law_258 ?_
        refine js_iload_n dL_law_259 ?_
        refine js_iconst dL_law_260 ?_
        refine js_iadd dL_law_261 ?_
        refine js_iald dL_law_262 ?_
        refine js_callv dL_law_263 (⟨⟨_, _, _, _, _, _, _, ⟨rfl, (show (11 : Nat) < 20 by decide), sX12_close l n, by decide, by decide, tw_1116, tw_103, tw_1114⟩, Or.inl ⟨by decide +kernel, by decide +kernel, by decide +kernel, tw_1113, tw_1115⟩⟩, trivial⟩) ?_
        refine js_icmpeq (tgt := 492) dL_law_266 (by decide) ?_ ?_
        · exact hK 492
        · refine js_iconst dL_law_269 ?_
          exact js_zret dL_law_270 rfl
      · refine js_aload_n dL_law_271 ?_
        refine js_aload_n dL_law_272 ?_
        refine js_iload_n dL_law_273 ?_
        refine js_iconst dL_law_274 ?_
        refine js_iadd dL_law_275 ?_
        refine js_iald dL_law_276 ?_
        refine js_callv dL_law_277 (⟨⟨_, _, _, _, _, _, _, ⟨rfl, (show (10 : Nat) < 20 by decide), sX11_run l n, by decide, by decide, tw_534, tw_102, tw_532⟩, Or.inl ⟨by decide +kernel, by decide +kernel, by decide +kernel, tw_531, tw_533⟩⟩, trivial⟩) ?_
        refine js_aload_n dL_law_280 ?_
        refine js_aload_n dL_law_281 ?_
        refine js_iload_n dL_law_282 ?_
        refine js_iconst dL_law_283 ?_
        refine js_iadd dL_law_284 ?_
        refine js_iald dL_law_285 ?_
        refine js_callv dL_law_286 (⟨⟨_, _, _, _, _, _, _, ⟨rfl, (show (11 : Nat) < 20 by decide), sX12_run l n, by decide, by decide, tw_1120, tw_103, tw_1118⟩, Or.inl ⟨by decide +kernel, by decide +kernel, by decide +kernel, tw_1117, tw_1119⟩⟩, trivial⟩) ?_
        refine js_icmpeq (tgt := 492) dL_law_289 (by decide) ?_ ?_
        · exact hK 492
        · refine js_iconst dL_law_292 ?_
          exact js_zret dL_law_293 rfl
      · refine js_aload_n dL_law_294 ?_
        refine js_aload_n dL_law_295 ?_
        refine js_iload_n dL_law_296 ?_
        refine js_iconst dL_law_297 ?_
        refine js_iadd dL_law_298 ?_
        refine js_iald dL_law_299 ?_
        refine js_aload_n dL_law_300 ?_
        refine js_iload_n dL_law_301 ?_
        refine js_iconst dL_law_302 ?_
        refine js_iadd dL_law_303 ?_
        refine js_iald dL_law_304 ?_
        refine js_callv dL_law_305 (⟨⟨_, _, _, _, _, _, _, ⟨rfl, (show (10 : Nat) < 20 by decide), sX11_tell l n, by decide, by decide, tw_885, tw_102, tw_883⟩, Or.inl ⟨by decide +kernel, by decide +kernel, by decide +kernel, tw_882, tw_884⟩⟩, trivial⟩) ?_
        refine js_aload_n dL_law_308 ?_
        refine js_aload_n dL_law_309 ?_
        refine js_iload_n dL_law_310 ?_
        refine js_iconst dL_law_311 ?_
        refine js_iadd dL_law_312 ?_
        refine js_iald dL_law_313 ?_
        refine js_aload_n dL_law_314 ?_
        refine js_iload_n dL_law_315 ?_
        refine js_iconst dL_law_316 ?_
        refine js_iadd dL_law_317 ?_
        refine js_iald dL_law_318 ?_
        refine js_callv dL_law_319 (⟨⟨_, _, _, _, _, _, _, ⟨rfl, (show (11 : Nat) < 20 by decide), sX12_tell l n, by decide, by decide, tw_1268, tw_103, tw_1266⟩, Or.inl ⟨by decide +kernel, by decide +kernel, by decide +kernel, tw_1265, tw_1267⟩⟩, trivial⟩) ?_
        refine js_icmpeq (tgt := 492) dL_law_322 (by decide) ?_ ?_
        · exact hK 492
        · refine js_iconst dL_law_325 ?_
          exact js_zret dL_law_326 rfl
      · refine js_aload_n dL_law_327 ?_
        refine js_aload_n dL_law_328 ?_
        refine js_iload_n dL_law_329 ?_
        refine js_iconst dL_law_330 ?_
        refine js_iadd dL_law_331 ?_
        refine js_iald dL_law_332 ?_
        refine js_aload_n dL_law_333 ?_
        refine js_iload_n dL_law_334 ?_
        refine js_iconst dL_law_335 ?_
        refine js_iadd dL_law_336 ?_
        refine js_iald dL_law_337 ?_
        refine js_aload_n dL_law_338 ?_
        refine js_iload_n dL_law_339 ?_
        refine js_iconst dL_law_340 ?_
        refine js_iadd dL_law_341 ?_
        refine js_iald dL_law_342 ?_
        refine js_callv dL_law_343 (⟨⟨_, _, _, _, _, _, _, ⟨rfl, (show (10 : Nat) < 20 by decide), sX11_outcome l n, by decide, by decide, tw_889, tw_102, tw_887⟩, Or.inl ⟨by decide +kernel, by decide +kernel, by decide +kernel, tw_886, tw_888⟩⟩, trivial⟩) ?_
        refine js_aload_n dL_law_346 ?_
        refine js_aload_n dL_law_347 ?_
        refine js_iload_n dL_law_348 ?_
        refine js_iconst dL_law_349 ?_
        refine js_iadd dL_law_350 ?_
        refine js_iald dL_law_351 ?_
        refine js_aload_n dL_law_352 ?_
        refine js_iload_n dL_law_353 ?_
        refine js_iconst dL_law_354 ?_
        refine js_iadd dL_law_355 ?_
        refine js_iald dL_law_356 ?_
        refine js_aload_n dL_law_357 ?_
        refine js_iload_n dL_law_358 ?_
        refine js_iconst dL_law_359 ?_
        refine js_iadd dL_law_360 ?_
        refine js_iald dL_law_361 ?_
        refine js_callv dL_law_362 (⟨⟨_, _, _, _, _, _, _, ⟨rfl, (show (11 : Nat) < 20 by decide), sX12_outcome l n, by decide, by decide, tw_1272, tw_103, tw_1270⟩, Or.inl ⟨by decide +kernel, by decide +kernel, by decide +kernel, tw_1269, tw_1271⟩⟩, trivial⟩) ?_
        refine js_icmpeq (tgt := 492) dL_law_365 (by decide) ?_ ?_
        · exact hK 492
        · refine js_iconst dL_law_368 ?_
          exact js_zret dL_law_369 rfl
      · refine js_aload_n dL_law_370 ?_
        refine js_aload_n dL_law_371 ?_
        refine js_iload_n dL_law_372 ?_
        refine js_iconst dL_law_373 ?_
        refine js_iadd dL_law_374 ?_
        refine js_iald dL_law_375 ?_
        refine js_aload_n dL_law_376 ?_
        refine js_iload_n dL_law_377 ?_
        refine js_iconst dL_law_378 ?_
        refine js_iadd dL_law_379 ?_
        refine js_iald dL_law_380 ?_
        refine js_callv dL_law_381 (⟨⟨_, _, _, _, _, _, _, ⟨rfl, (show (10 : Nat) < 20 by decide), sX11_state l n, by decide, by decide, tw_894, tw_102, tw_892⟩, Or.inl ⟨by decide +kernel, by decide +kernel, by decide +kernel, tw_891, tw_893⟩⟩, trivial⟩) ?_
        refine js_aload_n dL_law_384 ?_
        refine js_aload_n dL_law_385 ?_
        refine js_iload_n dL_law_386 ?_
        refine js_iconst dL_law_387 ?_
        refine js_iadd dL_law_388 ?_
        refine js_iald dL_law_389 ?_
        refine js_aload_n dL_law_390 ?_
        refine js_iload_n dL_law_391 ?_
        refine js_iconst dL_law_392 ?_
        refine js_iadd dL_law_393 ?_
        refine js_iald dL_law_394 ?_
        refine js_callv dL_law_395 (⟨⟨_, _, _, _, _, _, _, ⟨rfl, (show (11 : Nat) < 20 by decide), sX12_state l n, by decide, by decide, tw_1276, tw_103, tw_1274⟩, Or.inl ⟨by decide +kernel, by decide +kernel, by decide +kernel, tw_1273, tw_1275⟩⟩, trivial⟩) ?_
        refine js_icmpeq (tgt := 492) dL_law_398 (by decide) ?_ ?_
        · exact hK 492
        · refine js_iconst dL_law_401 ?_
          exact js_zret dL_law_402 rfl
      · refine js_aload_n dL_law_403 ?_
        refine js_aload_n dL_law_404 ?_
        refine js_iload_n dL_law_405 ?_
        refine js_iconst dL_law_406 ?_
        refine js_iadd dL_law_407 ?_
        refine js_iald dL_law_408 ?_
        refine js_aload_n dL_law_409 ?_
        refine js_iload_n dL_law_410 ?_
        refine js_iconst dL_law_411 ?_
        refine js_iadd dL_law_412 ?_
        refine js_iald dL_law_413 ?_
        refine js_callv dL_law_414 (⟨⟨_, _, _, _, _, _, _, ⟨rfl, (show (10 : Nat) < 20 by decide), sX11_waiting l n, by decide, by decide, tw_946, tw_102, tw_944⟩, Or.inl ⟨by decide +kernel, by decide +kernel, by decide +kernel, tw_943, tw_945⟩⟩, trivial⟩) ?_
        refine js_aload_n dL_law_417 ?_
        refine js_aload_n dL_law_418 ?_
        refine js_iload_n dL_law_419 ?_
        refine js_iconst dL_law_420 ?_
        refine js_iadd dL_law_421 ?_
        refine js_iald dL_law_422 ?_
        refine js_aload_n dL_law_423 ?_
        refine js_iload_n dL_law_424 ?_
        refine js_iconst dL_law_425 ?_
        refine js_iadd dL_law_426 ?_
        refine js_iald dL_law_427 ?_
        refine js_callv dL_law_428 (⟨⟨_, _, _, _, _, _, _, ⟨rfl, (show (11 : Nat) < 20 by decide), sX12_waiting l n, by decide, by decide, tw_1292, tw_103, tw_1290⟩, Or.inl ⟨by decide +kernel, by decide +kernel, by decide +kernel, tw_1289, tw_1291⟩⟩, trivial⟩) ?_
        refine js_icmpeq (tgt := 492) dL_law_431 (by decide) ?_ ?_
        · exact hK 492
        · refine js_iconst dL_law_434 ?_
          exact js_zret dL_law_435 rfl
      · refine js_aload_n dL_law_436 ?_
        refine js_aload_n dL_law_437 ?_
        refine js_iload_n dL_law_438 ?_
        refine js_iconst dL_law_439 ?_
        refine js_iadd dL_law_440 ?_
        refine js_iald dL_law_441 ?_
        refine js_aload_n dL_law_442 ?_
        refine js_iload_n dL_law_443 ?_
        refine js_iconst dL_law_444 ?_
        refine js_iadd dL_law_445 ?_
        refine js_iald dL_law_446 ?_
        refine js_callv dL_law_447 (⟨⟨_, _, _, _, _, _, _, ⟨rfl, (show (10 : Nat) < 20 by decide), sX11_passed l n, by decide, by decide, tw_951, tw_102, tw_949⟩, Or.inl ⟨by decide +kernel, by decide +kernel, by decide +kernel, tw_948, tw_950⟩⟩, trivial⟩) ?_
        refine js_aload_n dL_law_450 ?_
        refine js_aload_n dL_law_451 ?_
        refine js_iload_n dL_law_452 ?_
        refine js_iconst dL_law_453 ?_
        refine js_iadd dL_law_454 ?_
        refine js_iald dL_law_455 ?_
        refine js_aload_n dL_law_456 ?_
        refine js_iload_n dL_law_457 ?_
        refine js_iconst dL_law_458 ?_
        refine js_iadd dL_law_459 ?_
        refine js_iald dL_law_460 ?_
        refine js_callv dL_law_461 (⟨⟨_, _, _, _, _, _, _, ⟨rfl, (show (11 : Nat) < 20 by decide), sX12_passed l n, by decide, by decide, tw_1296, tw_103, tw_1294⟩, Or.inl ⟨by decide +kernel, by decide +kernel, by decide +kernel, tw_1293, tw_1295⟩⟩, trivial⟩) ?_
        refine js_icmpeq (tgt := 492) dL_law_464 (by decide) ?_ ?_
        · exact hK 492
        · refine js_iconst dL_law_467 ?_
          exact js_zret dL_law_468 rfl
      · refine js_aload_n dL_law_469 ?_
        refine js_aload_n dL_law_470 ?_
        refine js_iload_n dL_law_471 ?_
        refine js_iconst dL_law_472 ?_
        refine js_iadd dL_law_473 ?_
        refine js_iald dL_law_474 ?_
        refine js_callv dL_law_475 (⟨⟨_, _, _, _, _, _, _, ⟨rfl, (show (10 : Nat) < 20 by decide), sX11_stuck l n, by decide, by decide, tw_955, tw_102, tw_953⟩, Or.inl ⟨by decide +kernel, by decide +kernel, by decide +kernel, tw_952, tw_954⟩⟩, trivial⟩) ?_
        refine js_aload_n dL_law_478 ?_
        refine js_aload_n dL_law_479 ?_
        refine js_iload_n dL_law_480 ?_
        refine js_iconst dL_law_481 ?_
        refine js_iadd dL_law_482 ?_
        refine js_iald dL_law_483 ?_
        refine js_callv dL_law_484 (⟨⟨_, _, _, _, _, _, _, ⟨rfl, (show (11 : Nat) < 20 by decide), sX12_stuck l n, by decide, by decide, tw_1300, tw_103, tw_1298⟩, Or.inl ⟨by decide +kernel, by decide +kernel, by decide +kernel, tw_1297, tw_1299⟩⟩, trivial⟩) ?_
        refine js_icmpeq (tgt := 492) dL_law_487 (by decide) ?_ ?_
        · exact hK 492
        · refine js_iconst dL_law_490 ?_
          exact js_zret dL_law_491 rfl
noncomputable def kL_law_492 (n : Nat) (K : Nat → jK) : jK := jk_iinc 3 6 <| K 18
set_option maxRecDepth 100000 in
set_option maxHeartbeats 4000000 in
theorem tL_law_492 (l : Launch) (nm : String) (n : Nat) {K : Nat → jK} (hK : ∀ b, jr_D l code 4 "MeetingKitLaw" (some .boolean) nm 12 456 (K b) b) : jr_D l code 4 "MeetingKitLaw" (some .boolean) nm 12 456 (kL_law_492 n K) 492 := by
  unfold kL_law_492
  refine js_iinc dL_law_492 (by decide) ?_
  refine js_goto (tgt := 18) dL_law_495 (by decide) ?_
  exact hK 18
noncomputable def kL_law_b (n : Nat) (K : Nat → jK) (b : Nat) : jK := if b = 0 then kL_law_0 n K else if b = 18 then kL_law_18 n K else if b = 492 then kL_law_492 n K else jk_none
noncomputable def kL_law (n : Nat) : jK := jk_fix (kL_law_b n) n 0
theorem tL_law (l : Launch) (nm : String) (n : Nat) : jr_D l code 4 "MeetingKitLaw" (some .boolean) nm 12 456 (kL_law n) 0 := js_fix (F := kL_law_b n) (fun K hK b => js_blk (tL_law_0 l nm n hK) (js_blk (tL_law_18 l nm n hK) (js_blk (tL_law_492 l nm n hK) (js_none)))) n 0
