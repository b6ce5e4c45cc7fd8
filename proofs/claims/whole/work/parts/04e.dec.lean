theorem d_Law_law_0 : decode b_Law_law 0 = .ok (.new 7, 3) := by decide +kernel
theorem d_Law_law_3 : decode b_Law_law 3 = .ok (.dup, 1) := by decide +kernel
theorem d_Law_law_4 : decode b_Law_law 4 = .ok (.invokespecial 9, 3) := by decide +kernel
theorem d_Law_law_7 : decode b_Law_law 7 = .ok (.astore_n 1, 1) := by decide +kernel
theorem d_Law_law_8 : decode b_Law_law 8 = .ok (.new 10, 3) := by decide +kernel
theorem d_Law_law_11 : decode b_Law_law 11 = .ok (.dup, 1) := by decide +kernel
theorem d_Law_law_12 : decode b_Law_law 12 = .ok (.invokespecial 12, 3) := by decide +kernel
theorem d_Law_law_15 : decode b_Law_law 15 = .ok (.astore_n 2, 1) := by decide +kernel
theorem d_Law_law_16 : decode b_Law_law 16 = .ok (.iconst 0, 1) := by decide +kernel
theorem d_Law_law_17 : decode b_Law_law 17 = .ok (.istore_n 3, 1) := by decide +kernel
theorem d_Law_law_18 : decode b_Law_law 18 = .ok (.iload_n 3, 1) := by decide +kernel
theorem d_Law_law_19 : decode b_Law_law 19 = .ok (.aload_n 0, 1) := by decide +kernel
theorem d_Law_law_20 : decode b_Law_law 20 = .ok (.arraylength, 1) := by decide +kernel
theorem d_Law_law_21 : decode b_Law_law 21 = .ok (.iconst 5, 1) := by decide +kernel
theorem d_Law_law_22 : decode b_Law_law 22 = .ok (.isub, 1) := by decide +kernel
theorem d_Law_law_23 : decode b_Law_law 23 = .ok (.if_icmp .gt 601, 3) := by decide +kernel
theorem d_Law_law_26 : decode b_Law_law 26 = .ok (.aload_n 0, 1) := by decide +kernel
theorem d_Law_law_27 : decode b_Law_law 27 = .ok (.iload_n 3, 1) := by decide +kernel
theorem d_Law_law_28 : decode b_Law_law 28 = .ok (.iaload, 1) := by decide +kernel
theorem d_Law_law_29 : decode b_Law_law 29 = .ok (.bipush 31, 2) := by decide +kernel
theorem d_Law_law_31 : decode b_Law_law 31 = .ok (.iand, 1) := by decide +kernel
theorem d_Law_law_32 : decode b_Law_law 32 = .ok (.tableswitch 586 0 17 #[88, 147, 170, 203, 226, 239, 252, 275, 298, 321, 344, 377, 388, 411, 424, 447, 490, 533], 88) := by decide +kernel
theorem d_Law_law_120 : decode b_Law_law 120 = .ok (.aload_n 1, 1) := by decide +kernel
theorem d_Law_law_121 : decode b_Law_law 121 = .ok (.aload_n 0, 1) := by decide +kernel
theorem d_Law_law_122 : decode b_Law_law 122 = .ok (.iload_n 3, 1) := by decide +kernel
theorem d_Law_law_123 : decode b_Law_law 123 = .ok (.iconst 1, 1) := by decide +kernel
theorem d_Law_law_124 : decode b_Law_law 124 = .ok (.iadd, 1) := by decide +kernel
theorem d_Law_law_125 : decode b_Law_law 125 = .ok (.iaload, 1) := by decide +kernel
theorem d_Law_law_126 : decode b_Law_law 126 = .ok (.aload_n 0, 1) := by decide +kernel
theorem d_Law_law_127 : decode b_Law_law 127 = .ok (.iload_n 3, 1) := by decide +kernel
theorem d_Law_law_128 : decode b_Law_law 128 = .ok (.iconst 2, 1) := by decide +kernel
theorem d_Law_law_129 : decode b_Law_law 129 = .ok (.iadd, 1) := by decide +kernel
theorem d_Law_law_130 : decode b_Law_law 130 = .ok (.iaload, 1) := by decide +kernel
theorem d_Law_law_131 : decode b_Law_law 131 = .ok (.aload_n 0, 1) := by decide +kernel
theorem d_Law_law_132 : decode b_Law_law 132 = .ok (.iload_n 3, 1) := by decide +kernel
theorem d_Law_law_133 : decode b_Law_law 133 = .ok (.iconst 3, 1) := by decide +kernel
theorem d_Law_law_134 : decode b_Law_law 134 = .ok (.iadd, 1) := by decide +kernel
theorem d_Law_law_135 : decode b_Law_law 135 = .ok (.iaload, 1) := by decide +kernel
theorem d_Law_law_136 : decode b_Law_law 136 = .ok (.ifCond .eq 7, 3) := by decide +kernel
theorem d_Law_law_139 : decode b_Law_law 139 = .ok (.iconst 1, 1) := by decide +kernel
theorem d_Law_law_140 : decode b_Law_law 140 = .ok (.goto 4, 3) := by decide +kernel
theorem d_Law_law_143 : decode b_Law_law 143 = .ok (.iconst 0, 1) := by decide +kernel
theorem d_Law_law_144 : decode b_Law_law 144 = .ok (.invokevirtual 13, 3) := by decide +kernel
theorem d_Law_law_147 : decode b_Law_law 147 = .ok (.aload_n 2, 1) := by decide +kernel
theorem d_Law_law_148 : decode b_Law_law 148 = .ok (.aload_n 0, 1) := by decide +kernel
theorem d_Law_law_149 : decode b_Law_law 149 = .ok (.iload_n 3, 1) := by decide +kernel
theorem d_Law_law_150 : decode b_Law_law 150 = .ok (.iconst 1, 1) := by decide +kernel
theorem d_Law_law_151 : decode b_Law_law 151 = .ok (.iadd, 1) := by decide +kernel
theorem d_Law_law_152 : decode b_Law_law 152 = .ok (.iaload, 1) := by decide +kernel
theorem d_Law_law_153 : decode b_Law_law 153 = .ok (.aload_n 0, 1) := by decide +kernel
theorem d_Law_law_154 : decode b_Law_law 154 = .ok (.iload_n 3, 1) := by decide +kernel
theorem d_Law_law_155 : decode b_Law_law 155 = .ok (.iconst 2, 1) := by decide +kernel
theorem d_Law_law_156 : decode b_Law_law 156 = .ok (.iadd, 1) := by decide +kernel
theorem d_Law_law_157 : decode b_Law_law 157 = .ok (.iaload, 1) := by decide +kernel
theorem d_Law_law_158 : decode b_Law_law 158 = .ok (.aload_n 0, 1) := by decide +kernel
theorem d_Law_law_159 : decode b_Law_law 159 = .ok (.iload_n 3, 1) := by decide +kernel
theorem d_Law_law_160 : decode b_Law_law 160 = .ok (.iconst 3, 1) := by decide +kernel
theorem d_Law_law_161 : decode b_Law_law 161 = .ok (.iadd, 1) := by decide +kernel
theorem d_Law_law_162 : decode b_Law_law 162 = .ok (.iaload, 1) := by decide +kernel
theorem d_Law_law_163 : decode b_Law_law 163 = .ok (.ifCond .eq 7, 3) := by decide +kernel
theorem d_Law_law_166 : decode b_Law_law 166 = .ok (.iconst 1, 1) := by decide +kernel
theorem d_Law_law_167 : decode b_Law_law 167 = .ok (.goto 4, 3) := by decide +kernel
theorem d_Law_law_170 : decode b_Law_law 170 = .ok (.iconst 0, 1) := by decide +kernel
theorem d_Law_law_171 : decode b_Law_law 171 = .ok (.invokevirtual 17, 3) := by decide +kernel
theorem d_Law_law_174 : decode b_Law_law 174 = .ok (.if_icmp .eq 444, 3) := by decide +kernel
theorem d_Law_law_177 : decode b_Law_law 177 = .ok (.iconst 0, 1) := by decide +kernel
theorem d_Law_law_178 : decode b_Law_law 178 = .ok (.ireturn, 1) := by decide +kernel
theorem d_Law_law_179 : decode b_Law_law 179 = .ok (.aload_n 1, 1) := by decide +kernel
theorem d_Law_law_180 : decode b_Law_law 180 = .ok (.aload_n 0, 1) := by decide +kernel
theorem d_Law_law_181 : decode b_Law_law 181 = .ok (.iload_n 3, 1) := by decide +kernel
theorem d_Law_law_182 : decode b_Law_law 182 = .ok (.iconst 1, 1) := by decide +kernel
theorem d_Law_law_183 : decode b_Law_law 183 = .ok (.iadd, 1) := by decide +kernel
theorem d_Law_law_184 : decode b_Law_law 184 = .ok (.iaload, 1) := by decide +kernel
theorem d_Law_law_185 : decode b_Law_law 185 = .ok (.invokevirtual 18, 3) := by decide +kernel
theorem d_Law_law_188 : decode b_Law_law 188 = .ok (.aload_n 2, 1) := by decide +kernel
theorem d_Law_law_189 : decode b_Law_law 189 = .ok (.aload_n 0, 1) := by decide +kernel
theorem d_Law_law_190 : decode b_Law_law 190 = .ok (.iload_n 3, 1) := by decide +kernel
theorem d_Law_law_191 : decode b_Law_law 191 = .ok (.iconst 1, 1) := by decide +kernel
theorem d_Law_law_192 : decode b_Law_law 192 = .ok (.iadd, 1) := by decide +kernel
theorem d_Law_law_193 : decode b_Law_law 193 = .ok (.iaload, 1) := by decide +kernel
theorem d_Law_law_194 : decode b_Law_law 194 = .ok (.invokevirtual 22, 3) := by decide +kernel
theorem d_Law_law_197 : decode b_Law_law 197 = .ok (.if_icmp .eq 421, 3) := by decide +kernel
theorem d_Law_law_200 : decode b_Law_law 200 = .ok (.iconst 0, 1) := by decide +kernel
theorem d_Law_law_201 : decode b_Law_law 201 = .ok (.ireturn, 1) := by decide +kernel
theorem d_Law_law_202 : decode b_Law_law 202 = .ok (.aload_n 1, 1) := by decide +kernel
theorem d_Law_law_203 : decode b_Law_law 203 = .ok (.aload_n 0, 1) := by decide +kernel
theorem d_Law_law_204 : decode b_Law_law 204 = .ok (.iload_n 3, 1) := by decide +kernel
theorem d_Law_law_205 : decode b_Law_law 205 = .ok (.iconst 1, 1) := by decide +kernel
theorem d_Law_law_206 : decode b_Law_law 206 = .ok (.iadd, 1) := by decide +kernel
theorem d_Law_law_207 : decode b_Law_law 207 = .ok (.iaload, 1) := by decide +kernel
theorem d_Law_law_208 : decode b_Law_law 208 = .ok (.aload_n 0, 1) := by decide +kernel
theorem d_Law_law_209 : decode b_Law_law 209 = .ok (.iload_n 3, 1) := by decide +kernel
theorem d_Law_law_210 : decode b_Law_law 210 = .ok (.iconst 2, 1) := by decide +kernel
theorem d_Law_law_211 : decode b_Law_law 211 = .ok (.iadd, 1) := by decide +kernel
theorem d_Law_law_212 : decode b_Law_law 212 = .ok (.iaload, 1) := by decide +kernel
theorem d_Law_law_213 : decode b_Law_law 213 = .ok (.invokevirtual 23, 3) := by decide +kernel
theorem d_Law_law_216 : decode b_Law_law 216 = .ok (.aload_n 2, 1) := by decide +kernel
theorem d_Law_law_217 : decode b_Law_law 217 = .ok (.aload_n 0, 1) := by decide +kernel
theorem d_Law_law_218 : decode b_Law_law 218 = .ok (.iload_n 3, 1) := by decide +kernel
theorem d_Law_law_219 : decode b_Law_law 219 = .ok (.iconst 1, 1) := by decide +kernel
theorem d_Law_law_220 : decode b_Law_law 220 = .ok (.iadd, 1) := by decide +kernel
theorem d_Law_law_221 : decode b_Law_law 221 = .ok (.iaload, 1) := by decide +kernel
theorem d_Law_law_222 : decode b_Law_law 222 = .ok (.aload_n 0, 1) := by decide +kernel
theorem d_Law_law_223 : decode b_Law_law 223 = .ok (.iload_n 3, 1) := by decide +kernel
theorem d_Law_law_224 : decode b_Law_law 224 = .ok (.iconst 2, 1) := by decide +kernel
theorem d_Law_law_225 : decode b_Law_law 225 = .ok (.iadd, 1) := by decide +kernel
theorem d_Law_law_226 : decode b_Law_law 226 = .ok (.iaload, 1) := by decide +kernel
theorem d_Law_law_227 : decode b_Law_law 227 = .ok (.invokevirtual 27, 3) := by decide +kernel
theorem d_Law_law_230 : decode b_Law_law 230 = .ok (.if_icmp .eq 388, 3) := by decide +kernel
theorem d_Law_law_233 : decode b_Law_law 233 = .ok (.iconst 0, 1) := by decide +kernel
theorem d_Law_law_234 : decode b_Law_law 234 = .ok (.ireturn, 1) := by decide +kernel
theorem d_Law_law_235 : decode b_Law_law 235 = .ok (.aload_n 1, 1) := by decide +kernel
theorem d_Law_law_236 : decode b_Law_law 236 = .ok (.aload_n 0, 1) := by decide +kernel
theorem d_Law_law_237 : decode b_Law_law 237 = .ok (.iload_n 3, 1) := by decide +kernel
theorem d_Law_law_238 : decode b_Law_law 238 = .ok (.iconst 1, 1) := by decide +kernel
theorem d_Law_law_239 : decode b_Law_law 239 = .ok (.iadd, 1) := by decide +kernel
theorem d_Law_law_240 : decode b_Law_law 240 = .ok (.iaload, 1) := by decide +kernel
theorem d_Law_law_241 : decode b_Law_law 241 = .ok (.invokevirtual 28, 3) := by decide +kernel
theorem d_Law_law_244 : decode b_Law_law 244 = .ok (.aload_n 2, 1) := by decide +kernel
theorem d_Law_law_245 : decode b_Law_law 245 = .ok (.aload_n 0, 1) := by decide +kernel
theorem d_Law_law_246 : decode b_Law_law 246 = .ok (.iload_n 3, 1) := by decide +kernel
theorem d_Law_law_247 : decode b_Law_law 247 = .ok (.iconst 1, 1) := by decide +kernel
theorem d_Law_law_248 : decode b_Law_law 248 = .ok (.iadd, 1) := by decide +kernel
theorem d_Law_law_249 : decode b_Law_law 249 = .ok (.iaload, 1) := by decide +kernel
theorem d_Law_law_250 : decode b_Law_law 250 = .ok (.invokevirtual 31, 3) := by decide +kernel
theorem d_Law_law_253 : decode b_Law_law 253 = .ok (.if_icmp .eq 365, 3) := by decide +kernel
theorem d_Law_law_256 : decode b_Law_law 256 = .ok (.iconst 0, 1) := by decide +kernel
theorem d_Law_law_257 : decode b_Law_law 257 = .ok (.ireturn, 1) := by decide +kernel
theorem d_Law_law_258 : decode b_Law_law 258 = .ok (.aload_n 1, 1) := by decide +kernel
theorem d_Law_law_259 : decode b_Law_law 259 = .ok (.invokevirtual 32, 3) := by decide +kernel
theorem d_Law_law_262 : decode b_Law_law 262 = .ok (.aload_n 2, 1) := by decide +kernel
theorem d_Law_law_263 : decode b_Law_law 263 = .ok (.invokevirtual 36, 3) := by decide +kernel
theorem d_Law_law_266 : decode b_Law_law 266 = .ok (.if_icmp .eq 352, 3) := by decide +kernel
theorem d_Law_law_269 : decode b_Law_law 269 = .ok (.iconst 0, 1) := by decide +kernel
theorem d_Law_law_270 : decode b_Law_law 270 = .ok (.ireturn, 1) := by decide +kernel
theorem d_Law_law_271 : decode b_Law_law 271 = .ok (.aload_n 1, 1) := by decide +kernel
theorem d_Law_law_272 : decode b_Law_law 272 = .ok (.invokevirtual 37, 3) := by decide +kernel
theorem d_Law_law_275 : decode b_Law_law 275 = .ok (.aload_n 2, 1) := by decide +kernel
theorem d_Law_law_276 : decode b_Law_law 276 = .ok (.invokevirtual 40, 3) := by decide +kernel
theorem d_Law_law_279 : decode b_Law_law 279 = .ok (.if_icmp .eq 339, 3) := by decide +kernel
theorem d_Law_law_282 : decode b_Law_law 282 = .ok (.iconst 0, 1) := by decide +kernel
theorem d_Law_law_283 : decode b_Law_law 283 = .ok (.ireturn, 1) := by decide +kernel
theorem d_Law_law_284 : decode b_Law_law 284 = .ok (.aload_n 1, 1) := by decide +kernel
theorem d_Law_law_285 : decode b_Law_law 285 = .ok (.aload_n 0, 1) := by decide +kernel
theorem d_Law_law_286 : decode b_Law_law 286 = .ok (.iload_n 3, 1) := by decide +kernel
theorem d_Law_law_287 : decode b_Law_law 287 = .ok (.iconst 1, 1) := by decide +kernel
theorem d_Law_law_288 : decode b_Law_law 288 = .ok (.iadd, 1) := by decide +kernel
theorem d_Law_law_289 : decode b_Law_law 289 = .ok (.iaload, 1) := by decide +kernel
theorem d_Law_law_290 : decode b_Law_law 290 = .ok (.invokevirtual 41, 3) := by decide +kernel
theorem d_Law_law_293 : decode b_Law_law 293 = .ok (.aload_n 2, 1) := by decide +kernel
theorem d_Law_law_294 : decode b_Law_law 294 = .ok (.aload_n 0, 1) := by decide +kernel
theorem d_Law_law_295 : decode b_Law_law 295 = .ok (.iload_n 3, 1) := by decide +kernel
theorem d_Law_law_296 : decode b_Law_law 296 = .ok (.iconst 1, 1) := by decide +kernel
theorem d_Law_law_297 : decode b_Law_law 297 = .ok (.iadd, 1) := by decide +kernel
theorem d_Law_law_298 : decode b_Law_law 298 = .ok (.iaload, 1) := by decide +kernel
theorem d_Law_law_299 : decode b_Law_law 299 = .ok (.invokevirtual 44, 3) := by decide +kernel
theorem d_Law_law_302 : decode b_Law_law 302 = .ok (.if_icmp .eq 316, 3) := by decide +kernel
theorem d_Law_law_305 : decode b_Law_law 305 = .ok (.iconst 0, 1) := by decide +kernel
theorem d_Law_law_306 : decode b_Law_law 306 = .ok (.ireturn, 1) := by decide +kernel
theorem d_Law_law_307 : decode b_Law_law 307 = .ok (.aload_n 1, 1) := by decide +kernel
theorem d_Law_law_308 : decode b_Law_law 308 = .ok (.aload_n 0, 1) := by decide +kernel
theorem d_Law_law_309 : decode b_Law_law 309 = .ok (.iload_n 3, 1) := by decide +kernel
theorem d_Law_law_310 : decode b_Law_law 310 = .ok (.iconst 1, 1) := by decide +kernel
theorem d_Law_law_311 : decode b_Law_law 311 = .ok (.iadd, 1) := by decide +kernel
theorem d_Law_law_312 : decode b_Law_law 312 = .ok (.iaload, 1) := by decide +kernel
theorem d_Law_law_313 : decode b_Law_law 313 = .ok (.invokevirtual 45, 3) := by decide +kernel
theorem d_Law_law_316 : decode b_Law_law 316 = .ok (.aload_n 2, 1) := by decide +kernel
theorem d_Law_law_317 : decode b_Law_law 317 = .ok (.aload_n 0, 1) := by decide +kernel
theorem d_Law_law_318 : decode b_Law_law 318 = .ok (.iload_n 3, 1) := by decide +kernel
theorem d_Law_law_319 : decode b_Law_law 319 = .ok (.iconst 1, 1) := by decide +kernel
theorem d_Law_law_320 : decode b_Law_law 320 = .ok (.iadd, 1) := by decide +kernel
theorem d_Law_law_321 : decode b_Law_law 321 = .ok (.iaload, 1) := by decide +kernel
theorem d_Law_law_322 : decode b_Law_law 322 = .ok (.invokevirtual 48, 3) := by decide +kernel
theorem d_Law_law_325 : decode b_Law_law 325 = .ok (.if_icmp .eq 293, 3) := by decide +kernel
theorem d_Law_law_328 : decode b_Law_law 328 = .ok (.iconst 0, 1) := by decide +kernel
theorem d_Law_law_329 : decode b_Law_law 329 = .ok (.ireturn, 1) := by decide +kernel
theorem d_Law_law_330 : decode b_Law_law 330 = .ok (.aload_n 1, 1) := by decide +kernel
theorem d_Law_law_331 : decode b_Law_law 331 = .ok (.aload_n 0, 1) := by decide +kernel
theorem d_Law_law_332 : decode b_Law_law 332 = .ok (.iload_n 3, 1) := by decide +kernel
theorem d_Law_law_333 : decode b_Law_law 333 = .ok (.iconst 1, 1) := by decide +kernel
theorem d_Law_law_334 : decode b_Law_law 334 = .ok (.iadd, 1) := by decide +kernel
theorem d_Law_law_335 : decode b_Law_law 335 = .ok (.iaload, 1) := by decide +kernel
theorem d_Law_law_336 : decode b_Law_law 336 = .ok (.invokevirtual 49, 3) := by decide +kernel
theorem d_Law_law_339 : decode b_Law_law 339 = .ok (.aload_n 2, 1) := by decide +kernel
theorem d_Law_law_340 : decode b_Law_law 340 = .ok (.aload_n 0, 1) := by decide +kernel
theorem d_Law_law_341 : decode b_Law_law 341 = .ok (.iload_n 3, 1) := by decide +kernel
theorem d_Law_law_342 : decode b_Law_law 342 = .ok (.iconst 1, 1) := by decide +kernel
theorem d_Law_law_343 : decode b_Law_law 343 = .ok (.iadd, 1) := by decide +kernel
theorem d_Law_law_344 : decode b_Law_law 344 = .ok (.iaload, 1) := by decide +kernel
theorem d_Law_law_345 : decode b_Law_law 345 = .ok (.invokevirtual 52, 3) := by decide +kernel
theorem d_Law_law_348 : decode b_Law_law 348 = .ok (.if_icmp .eq 270, 3) := by decide +kernel
theorem d_Law_law_351 : decode b_Law_law 351 = .ok (.iconst 0, 1) := by decide +kernel
theorem d_Law_law_352 : decode b_Law_law 352 = .ok (.ireturn, 1) := by decide +kernel
theorem d_Law_law_353 : decode b_Law_law 353 = .ok (.aload_n 1, 1) := by decide +kernel
theorem d_Law_law_354 : decode b_Law_law 354 = .ok (.aload_n 0, 1) := by decide +kernel
theorem d_Law_law_355 : decode b_Law_law 355 = .ok (.iload_n 3, 1) := by decide +kernel
theorem d_Law_law_356 : decode b_Law_law 356 = .ok (.iconst 1, 1) := by decide +kernel
theorem d_Law_law_357 : decode b_Law_law 357 = .ok (.iadd, 1) := by decide +kernel
theorem d_Law_law_358 : decode b_Law_law 358 = .ok (.iaload, 1) := by decide +kernel
theorem d_Law_law_359 : decode b_Law_law 359 = .ok (.invokevirtual 53, 3) := by decide +kernel
theorem d_Law_law_362 : decode b_Law_law 362 = .ok (.aload_n 2, 1) := by decide +kernel
theorem d_Law_law_363 : decode b_Law_law 363 = .ok (.aload_n 0, 1) := by decide +kernel
theorem d_Law_law_364 : decode b_Law_law 364 = .ok (.iload_n 3, 1) := by decide +kernel
theorem d_Law_law_365 : decode b_Law_law 365 = .ok (.iconst 1, 1) := by decide +kernel
theorem d_Law_law_366 : decode b_Law_law 366 = .ok (.iadd, 1) := by decide +kernel
theorem d_Law_law_367 : decode b_Law_law 367 = .ok (.iaload, 1) := by decide +kernel
theorem d_Law_law_368 : decode b_Law_law 368 = .ok (.invokevirtual 56, 3) := by decide +kernel
theorem d_Law_law_371 : decode b_Law_law 371 = .ok (.if_icmp .eq 247, 3) := by decide +kernel
theorem d_Law_law_374 : decode b_Law_law 374 = .ok (.iconst 0, 1) := by decide +kernel
theorem d_Law_law_375 : decode b_Law_law 375 = .ok (.ireturn, 1) := by decide +kernel
theorem d_Law_law_376 : decode b_Law_law 376 = .ok (.aload_n 1, 1) := by decide +kernel
theorem d_Law_law_377 : decode b_Law_law 377 = .ok (.aload_n 0, 1) := by decide +kernel
theorem d_Law_law_378 : decode b_Law_law 378 = .ok (.iload_n 3, 1) := by decide +kernel
theorem d_Law_law_379 : decode b_Law_law 379 = .ok (.iconst 1, 1) := by decide +kernel
theorem d_Law_law_380 : decode b_Law_law 380 = .ok (.iadd, 1) := by decide +kernel
theorem d_Law_law_381 : decode b_Law_law 381 = .ok (.iaload, 1) := by decide +kernel
theorem d_Law_law_382 : decode b_Law_law 382 = .ok (.aload_n 0, 1) := by decide +kernel
theorem d_Law_law_383 : decode b_Law_law 383 = .ok (.iload_n 3, 1) := by decide +kernel
theorem d_Law_law_384 : decode b_Law_law 384 = .ok (.iconst 2, 1) := by decide +kernel
theorem d_Law_law_385 : decode b_Law_law 385 = .ok (.iadd, 1) := by decide +kernel
theorem d_Law_law_386 : decode b_Law_law 386 = .ok (.iaload, 1) := by decide +kernel
theorem d_Law_law_387 : decode b_Law_law 387 = .ok (.invokevirtual 57, 3) := by decide +kernel
theorem d_Law_law_390 : decode b_Law_law 390 = .ok (.aload_n 2, 1) := by decide +kernel
theorem d_Law_law_391 : decode b_Law_law 391 = .ok (.aload_n 0, 1) := by decide +kernel
theorem d_Law_law_392 : decode b_Law_law 392 = .ok (.iload_n 3, 1) := by decide +kernel
theorem d_Law_law_393 : decode b_Law_law 393 = .ok (.iconst 1, 1) := by decide +kernel
theorem d_Law_law_394 : decode b_Law_law 394 = .ok (.iadd, 1) := by decide +kernel
theorem d_Law_law_395 : decode b_Law_law 395 = .ok (.iaload, 1) := by decide +kernel
theorem d_Law_law_396 : decode b_Law_law 396 = .ok (.aload_n 0, 1) := by decide +kernel
theorem d_Law_law_397 : decode b_Law_law 397 = .ok (.iload_n 3, 1) := by decide +kernel
theorem d_Law_law_398 : decode b_Law_law 398 = .ok (.iconst 2, 1) := by decide +kernel
theorem d_Law_law_399 : decode b_Law_law 399 = .ok (.iadd, 1) := by decide +kernel
theorem d_Law_law_400 : decode b_Law_law 400 = .ok (.iaload, 1) := by decide +kernel
theorem d_Law_law_401 : decode b_Law_law 401 = .ok (.invokevirtual 60, 3) := by decide +kernel
theorem d_Law_law_404 : decode b_Law_law 404 = .ok (.if_icmp .eq 214, 3) := by decide +kernel
theorem d_Law_law_407 : decode b_Law_law 407 = .ok (.iconst 0, 1) := by decide +kernel
theorem d_Law_law_408 : decode b_Law_law 408 = .ok (.ireturn, 1) := by decide +kernel
theorem d_Law_law_409 : decode b_Law_law 409 = .ok (.aload_n 1, 1) := by decide +kernel
theorem d_Law_law_410 : decode b_Law_law 410 = .ok (.invokevirtual 61, 3) := by decide +kernel
theorem d_Law_law_413 : decode b_Law_law 413 = .ok (.aload_n 2, 1) := by decide +kernel
theorem d_Law_law_414 : decode b_Law_law 414 = .ok (.invokevirtual 64, 3) := by decide +kernel
theorem d_Law_law_417 : decode b_Law_law 417 = .ok (.goto 201, 3) := by decide +kernel
theorem d_Law_law_420 : decode b_Law_law 420 = .ok (.aload_n 1, 1) := by decide +kernel
theorem d_Law_law_421 : decode b_Law_law 421 = .ok (.aload_n 0, 1) := by decide +kernel
theorem d_Law_law_422 : decode b_Law_law 422 = .ok (.iload_n 3, 1) := by decide +kernel
theorem d_Law_law_423 : decode b_Law_law 423 = .ok (.iconst 1, 1) := by decide +kernel
theorem d_Law_law_424 : decode b_Law_law 424 = .ok (.iadd, 1) := by decide +kernel
theorem d_Law_law_425 : decode b_Law_law 425 = .ok (.iaload, 1) := by decide +kernel
theorem d_Law_law_426 : decode b_Law_law 426 = .ok (.invokevirtual 65, 3) := by decide +kernel
theorem d_Law_law_429 : decode b_Law_law 429 = .ok (.aload_n 2, 1) := by decide +kernel
theorem d_Law_law_430 : decode b_Law_law 430 = .ok (.aload_n 0, 1) := by decide +kernel
theorem d_Law_law_431 : decode b_Law_law 431 = .ok (.iload_n 3, 1) := by decide +kernel
theorem d_Law_law_432 : decode b_Law_law 432 = .ok (.iconst 1, 1) := by decide +kernel
theorem d_Law_law_433 : decode b_Law_law 433 = .ok (.iadd, 1) := by decide +kernel
theorem d_Law_law_434 : decode b_Law_law 434 = .ok (.iaload, 1) := by decide +kernel
theorem d_Law_law_435 : decode b_Law_law 435 = .ok (.invokevirtual 68, 3) := by decide +kernel
theorem d_Law_law_438 : decode b_Law_law 438 = .ok (.if_icmp .eq 180, 3) := by decide +kernel
theorem d_Law_law_441 : decode b_Law_law 441 = .ok (.iconst 0, 1) := by decide +kernel
theorem d_Law_law_442 : decode b_Law_law 442 = .ok (.ireturn, 1) := by decide +kernel
theorem d_Law_law_443 : decode b_Law_law 443 = .ok (.aload_n 1, 1) := by decide +kernel
theorem d_Law_law_444 : decode b_Law_law 444 = .ok (.invokevirtual 69, 3) := by decide +kernel
theorem d_Law_law_447 : decode b_Law_law 447 = .ok (.aload_n 2, 1) := by decide +kernel
theorem d_Law_law_448 : decode b_Law_law 448 = .ok (.invokevirtual 72, 3) := by decide +kernel
theorem d_Law_law_451 : decode b_Law_law 451 = .ok (.if_icmp .eq 167, 3) := by decide +kernel
theorem d_Law_law_454 : decode b_Law_law 454 = .ok (.iconst 0, 1) := by decide +kernel
theorem d_Law_law_455 : decode b_Law_law 455 = .ok (.ireturn, 1) := by decide +kernel
theorem d_Law_law_456 : decode b_Law_law 456 = .ok (.aload_n 1, 1) := by decide +kernel
theorem d_Law_law_457 : decode b_Law_law 457 = .ok (.aload_n 0, 1) := by decide +kernel
theorem d_Law_law_458 : decode b_Law_law 458 = .ok (.iload_n 3, 1) := by decide +kernel
theorem d_Law_law_459 : decode b_Law_law 459 = .ok (.iconst 1, 1) := by decide +kernel
theorem d_Law_law_460 : decode b_Law_law 460 = .ok (.iadd, 1) := by decide +kernel
theorem d_Law_law_461 : decode b_Law_law 461 = .ok (.iaload, 1) := by decide +kernel
theorem d_Law_law_462 : decode b_Law_law 462 = .ok (.invokevirtual 73, 3) := by decide +kernel
theorem d_Law_law_465 : decode b_Law_law 465 = .ok (.aload_n 2, 1) := by decide +kernel
theorem d_Law_law_466 : decode b_Law_law 466 = .ok (.aload_n 0, 1) := by decide +kernel
theorem d_Law_law_467 : decode b_Law_law 467 = .ok (.iload_n 3, 1) := by decide +kernel
theorem d_Law_law_468 : decode b_Law_law 468 = .ok (.iconst 1, 1) := by decide +kernel
theorem d_Law_law_469 : decode b_Law_law 469 = .ok (.iadd, 1) := by decide +kernel
theorem d_Law_law_470 : decode b_Law_law 470 = .ok (.iaload, 1) := by decide +kernel
theorem d_Law_law_471 : decode b_Law_law 471 = .ok (.invokevirtual 76, 3) := by decide +kernel
theorem d_Law_law_474 : decode b_Law_law 474 = .ok (.if_icmp .eq 144, 3) := by decide +kernel
theorem d_Law_law_477 : decode b_Law_law 477 = .ok (.iconst 0, 1) := by decide +kernel
theorem d_Law_law_478 : decode b_Law_law 478 = .ok (.ireturn, 1) := by decide +kernel
theorem d_Law_law_479 : decode b_Law_law 479 = .ok (.aload_n 1, 1) := by decide +kernel
theorem d_Law_law_480 : decode b_Law_law 480 = .ok (.aload_n 0, 1) := by decide +kernel
theorem d_Law_law_481 : decode b_Law_law 481 = .ok (.iload_n 3, 1) := by decide +kernel
theorem d_Law_law_482 : decode b_Law_law 482 = .ok (.iconst 1, 1) := by decide +kernel
theorem d_Law_law_483 : decode b_Law_law 483 = .ok (.iadd, 1) := by decide +kernel
theorem d_Law_law_484 : decode b_Law_law 484 = .ok (.iaload, 1) := by decide +kernel
theorem d_Law_law_485 : decode b_Law_law 485 = .ok (.aload_n 0, 1) := by decide +kernel
theorem d_Law_law_486 : decode b_Law_law 486 = .ok (.iload_n 3, 1) := by decide +kernel
theorem d_Law_law_487 : decode b_Law_law 487 = .ok (.iconst 2, 1) := by decide +kernel
theorem d_Law_law_488 : decode b_Law_law 488 = .ok (.iadd, 1) := by decide +kernel
theorem d_Law_law_489 : decode b_Law_law 489 = .ok (.iaload, 1) := by decide +kernel
theorem d_Law_law_490 : decode b_Law_law 490 = .ok (.aload_n 0, 1) := by decide +kernel
theorem d_Law_law_491 : decode b_Law_law 491 = .ok (.iload_n 3, 1) := by decide +kernel
theorem d_Law_law_492 : decode b_Law_law 492 = .ok (.iconst 3, 1) := by decide +kernel
theorem d_Law_law_493 : decode b_Law_law 493 = .ok (.iadd, 1) := by decide +kernel
theorem d_Law_law_494 : decode b_Law_law 494 = .ok (.iaload, 1) := by decide +kernel
theorem d_Law_law_495 : decode b_Law_law 495 = .ok (.invokevirtual 77, 3) := by decide +kernel
theorem d_Law_law_498 : decode b_Law_law 498 = .ok (.aload_n 2, 1) := by decide +kernel
theorem d_Law_law_499 : decode b_Law_law 499 = .ok (.aload_n 0, 1) := by decide +kernel
theorem d_Law_law_500 : decode b_Law_law 500 = .ok (.iload_n 3, 1) := by decide +kernel
theorem d_Law_law_501 : decode b_Law_law 501 = .ok (.iconst 1, 1) := by decide +kernel
theorem d_Law_law_502 : decode b_Law_law 502 = .ok (.iadd, 1) := by decide +kernel
theorem d_Law_law_503 : decode b_Law_law 503 = .ok (.iaload, 1) := by decide +kernel
theorem d_Law_law_504 : decode b_Law_law 504 = .ok (.aload_n 0, 1) := by decide +kernel
theorem d_Law_law_505 : decode b_Law_law 505 = .ok (.iload_n 3, 1) := by decide +kernel
theorem d_Law_law_506 : decode b_Law_law 506 = .ok (.iconst 2, 1) := by decide +kernel
theorem d_Law_law_507 : decode b_Law_law 507 = .ok (.iadd, 1) := by decide +kernel
theorem d_Law_law_508 : decode b_Law_law 508 = .ok (.iaload, 1) := by decide +kernel
theorem d_Law_law_509 : decode b_Law_law 509 = .ok (.aload_n 0, 1) := by decide +kernel
theorem d_Law_law_510 : decode b_Law_law 510 = .ok (.iload_n 3, 1) := by decide +kernel
theorem d_Law_law_511 : decode b_Law_law 511 = .ok (.iconst 3, 1) := by decide +kernel
theorem d_Law_law_512 : decode b_Law_law 512 = .ok (.iadd, 1) := by decide +kernel
theorem d_Law_law_513 : decode b_Law_law 513 = .ok (.iaload, 1) := by decide +kernel
theorem d_Law_law_514 : decode b_Law_law 514 = .ok (.invokevirtual 81, 3) := by decide +kernel
theorem d_Law_law_517 : decode b_Law_law 517 = .ok (.if_icmp .eq 101, 3) := by decide +kernel
theorem d_Law_law_520 : decode b_Law_law 520 = .ok (.iconst 0, 1) := by decide +kernel
theorem d_Law_law_521 : decode b_Law_law 521 = .ok (.ireturn, 1) := by decide +kernel
theorem d_Law_law_522 : decode b_Law_law 522 = .ok (.aload_n 1, 1) := by decide +kernel
theorem d_Law_law_523 : decode b_Law_law 523 = .ok (.aload_n 0, 1) := by decide +kernel
theorem d_Law_law_524 : decode b_Law_law 524 = .ok (.iload_n 3, 1) := by decide +kernel
theorem d_Law_law_525 : decode b_Law_law 525 = .ok (.iconst 1, 1) := by decide +kernel
theorem d_Law_law_526 : decode b_Law_law 526 = .ok (.iadd, 1) := by decide +kernel
theorem d_Law_law_527 : decode b_Law_law 527 = .ok (.iaload, 1) := by decide +kernel
theorem d_Law_law_528 : decode b_Law_law 528 = .ok (.aload_n 0, 1) := by decide +kernel
theorem d_Law_law_529 : decode b_Law_law 529 = .ok (.iload_n 3, 1) := by decide +kernel
theorem d_Law_law_530 : decode b_Law_law 530 = .ok (.iconst 2, 1) := by decide +kernel
theorem d_Law_law_531 : decode b_Law_law 531 = .ok (.iadd, 1) := by decide +kernel
theorem d_Law_law_532 : decode b_Law_law 532 = .ok (.iaload, 1) := by decide +kernel
theorem d_Law_law_533 : decode b_Law_law 533 = .ok (.aload_n 0, 1) := by decide +kernel
theorem d_Law_law_534 : decode b_Law_law 534 = .ok (.iload_n 3, 1) := by decide +kernel
theorem d_Law_law_535 : decode b_Law_law 535 = .ok (.iconst 3, 1) := by decide +kernel
theorem d_Law_law_536 : decode b_Law_law 536 = .ok (.iadd, 1) := by decide +kernel
theorem d_Law_law_537 : decode b_Law_law 537 = .ok (.iaload, 1) := by decide +kernel
theorem d_Law_law_538 : decode b_Law_law 538 = .ok (.invokevirtual 82, 3) := by decide +kernel
theorem d_Law_law_541 : decode b_Law_law 541 = .ok (.aload_n 2, 1) := by decide +kernel
theorem d_Law_law_542 : decode b_Law_law 542 = .ok (.aload_n 0, 1) := by decide +kernel
theorem d_Law_law_543 : decode b_Law_law 543 = .ok (.iload_n 3, 1) := by decide +kernel
theorem d_Law_law_544 : decode b_Law_law 544 = .ok (.iconst 1, 1) := by decide +kernel
theorem d_Law_law_545 : decode b_Law_law 545 = .ok (.iadd, 1) := by decide +kernel
theorem d_Law_law_546 : decode b_Law_law 546 = .ok (.iaload, 1) := by decide +kernel
theorem d_Law_law_547 : decode b_Law_law 547 = .ok (.aload_n 0, 1) := by decide +kernel
theorem d_Law_law_548 : decode b_Law_law 548 = .ok (.iload_n 3, 1) := by decide +kernel
theorem d_Law_law_549 : decode b_Law_law 549 = .ok (.iconst 2, 1) := by decide +kernel
theorem d_Law_law_550 : decode b_Law_law 550 = .ok (.iadd, 1) := by decide +kernel
theorem d_Law_law_551 : decode b_Law_law 551 = .ok (.iaload, 1) := by decide +kernel
theorem d_Law_law_552 : decode b_Law_law 552 = .ok (.aload_n 0, 1) := by decide +kernel
theorem d_Law_law_553 : decode b_Law_law 553 = .ok (.iload_n 3, 1) := by decide +kernel
theorem d_Law_law_554 : decode b_Law_law 554 = .ok (.iconst 3, 1) := by decide +kernel
theorem d_Law_law_555 : decode b_Law_law 555 = .ok (.iadd, 1) := by decide +kernel
theorem d_Law_law_556 : decode b_Law_law 556 = .ok (.iaload, 1) := by decide +kernel
theorem d_Law_law_557 : decode b_Law_law 557 = .ok (.invokevirtual 85, 3) := by decide +kernel
theorem d_Law_law_560 : decode b_Law_law 560 = .ok (.if_icmp .eq 58, 3) := by decide +kernel
theorem d_Law_law_563 : decode b_Law_law 563 = .ok (.iconst 0, 1) := by decide +kernel
theorem d_Law_law_564 : decode b_Law_law 564 = .ok (.ireturn, 1) := by decide +kernel
theorem d_Law_law_565 : decode b_Law_law 565 = .ok (.aload_n 1, 1) := by decide +kernel
theorem d_Law_law_566 : decode b_Law_law 566 = .ok (.aload_n 0, 1) := by decide +kernel
theorem d_Law_law_567 : decode b_Law_law 567 = .ok (.iload_n 3, 1) := by decide +kernel
theorem d_Law_law_568 : decode b_Law_law 568 = .ok (.iconst 1, 1) := by decide +kernel
theorem d_Law_law_569 : decode b_Law_law 569 = .ok (.iadd, 1) := by decide +kernel
theorem d_Law_law_570 : decode b_Law_law 570 = .ok (.iaload, 1) := by decide +kernel
theorem d_Law_law_571 : decode b_Law_law 571 = .ok (.aload_n 0, 1) := by decide +kernel
theorem d_Law_law_572 : decode b_Law_law 572 = .ok (.iload_n 3, 1) := by decide +kernel
theorem d_Law_law_573 : decode b_Law_law 573 = .ok (.iconst 2, 1) := by decide +kernel
theorem d_Law_law_574 : decode b_Law_law 574 = .ok (.iadd, 1) := by decide +kernel
theorem d_Law_law_575 : decode b_Law_law 575 = .ok (.iaload, 1) := by decide +kernel
theorem d_Law_law_576 : decode b_Law_law 576 = .ok (.aload_n 0, 1) := by decide +kernel
theorem d_Law_law_577 : decode b_Law_law 577 = .ok (.iload_n 3, 1) := by decide +kernel
theorem d_Law_law_578 : decode b_Law_law 578 = .ok (.iconst 3, 1) := by decide +kernel
theorem d_Law_law_579 : decode b_Law_law 579 = .ok (.iadd, 1) := by decide +kernel
theorem d_Law_law_580 : decode b_Law_law 580 = .ok (.iaload, 1) := by decide +kernel
theorem d_Law_law_581 : decode b_Law_law 581 = .ok (.aload_n 0, 1) := by decide +kernel
theorem d_Law_law_582 : decode b_Law_law 582 = .ok (.iload_n 3, 1) := by decide +kernel
theorem d_Law_law_583 : decode b_Law_law 583 = .ok (.iconst 4, 1) := by decide +kernel
theorem d_Law_law_584 : decode b_Law_law 584 = .ok (.iadd, 1) := by decide +kernel
theorem d_Law_law_585 : decode b_Law_law 585 = .ok (.iaload, 1) := by decide +kernel
theorem d_Law_law_586 : decode b_Law_law 586 = .ok (.invokevirtual 86, 3) := by decide +kernel
theorem d_Law_law_589 : decode b_Law_law 589 = .ok (.aload_n 2, 1) := by decide +kernel
theorem d_Law_law_590 : decode b_Law_law 590 = .ok (.aload_n 0, 1) := by decide +kernel
theorem d_Law_law_591 : decode b_Law_law 591 = .ok (.iload_n 3, 1) := by decide +kernel
theorem d_Law_law_592 : decode b_Law_law 592 = .ok (.iconst 1, 1) := by decide +kernel
theorem d_Law_law_593 : decode b_Law_law 593 = .ok (.iadd, 1) := by decide +kernel
theorem d_Law_law_594 : decode b_Law_law 594 = .ok (.iaload, 1) := by decide +kernel
theorem d_Law_law_595 : decode b_Law_law 595 = .ok (.aload_n 0, 1) := by decide +kernel
theorem d_Law_law_596 : decode b_Law_law 596 = .ok (.iload_n 3, 1) := by decide +kernel
theorem d_Law_law_597 : decode b_Law_law 597 = .ok (.iconst 2, 1) := by decide +kernel
theorem d_Law_law_598 : decode b_Law_law 598 = .ok (.iadd, 1) := by decide +kernel
theorem d_Law_law_599 : decode b_Law_law 599 = .ok (.iaload, 1) := by decide +kernel
theorem d_Law_law_600 : decode b_Law_law 600 = .ok (.aload_n 0, 1) := by decide +kernel
theorem d_Law_law_601 : decode b_Law_law 601 = .ok (.iload_n 3, 1) := by decide +kernel
theorem d_Law_law_602 : decode b_Law_law 602 = .ok (.iconst 3, 1) := by decide +kernel
theorem d_Law_law_603 : decode b_Law_law 603 = .ok (.iadd, 1) := by decide +kernel
theorem d_Law_law_604 : decode b_Law_law 604 = .ok (.iaload, 1) := by decide +kernel
theorem d_Law_law_605 : decode b_Law_law 605 = .ok (.aload_n 0, 1) := by decide +kernel
theorem d_Law_law_606 : decode b_Law_law 606 = .ok (.iload_n 3, 1) := by decide +kernel
theorem d_Law_law_607 : decode b_Law_law 607 = .ok (.iconst 4, 1) := by decide +kernel
theorem d_Law_law_608 : decode b_Law_law 608 = .ok (.iadd, 1) := by decide +kernel
theorem d_Law_law_609 : decode b_Law_law 609 = .ok (.iaload, 1) := by decide +kernel
theorem d_Law_law_610 : decode b_Law_law 610 = .ok (.invokevirtual 90, 3) := by decide +kernel
theorem d_Law_law_613 : decode b_Law_law 613 = .ok (.if_icmp .eq 5, 3) := by decide +kernel
theorem d_Law_law_616 : decode b_Law_law 616 = .ok (.iconst 0, 1) := by decide +kernel
theorem d_Law_law_617 : decode b_Law_law 617 = .ok (.ireturn, 1) := by decide +kernel
theorem d_Law_law_618 : decode b_Law_law 618 = .ok (.iinc 3 5, 3) := by decide +kernel
theorem d_Law_law_621 : decode b_Law_law 621 = .ok (.goto (-603), 3) := by decide +kernel
theorem d_Law_law_624 : decode b_Law_law 624 = .ok (.iconst 1, 1) := by decide +kernel
theorem d_Law_law_625 : decode b_Law_law 625 = .ok (.ireturn, 1) := by decide +kernel
