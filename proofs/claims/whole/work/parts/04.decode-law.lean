theorem d_Law_law_0 : decode b_Law_law 0 = .ok (.new 7, 3) := by decide +kernel
theorem d_Law_law_3 : decode b_Law_law 3 = .ok (.dup, 1) := by decide +kernel
theorem d_Law_law_4 : decode b_Law_law 4 = .ok (.invokespecial 9, 3) := by decide +kernel
theorem d_Law_law_7 : decode b_Law_law 7 = .ok (.astore_n 1, 1) := by decide +kernel
theorem d_Law_law_8 : decode b_Law_law 8 = .ok (.new 10, 3) := by decide +kernel
theorem d_Law_law_11 : decode b_Law_law 11 = .ok (.dup, 1) := by decide +kernel
theorem d_Law_law_12 : decode b_Law_law 12 = .ok (.invokespecial 12, 3) := by decide +kernel
theorem d_Law_law_15 : decode b_Law_law 15 = .ok (.astore_n 2, 1) := by decide +kernel
theorem d_Law_law_16 : decode b_Law_law 16 = .ok (.iconst 0, 1) := by decide +kernel
theorem d_Law_law_17 : decode b_Law_law 17 = .ok (.istore_n 3, 1) := by decide +kernel
theorem d_Law_law_18 : decode b_Law_law 18 = .ok (.iload_n 3, 1) := by decide +kernel
theorem d_Law_law_19 : decode b_Law_law 19 = .ok (.aload_n 0, 1) := by decide +kernel
theorem d_Law_law_20 : decode b_Law_law 20 = .ok (.arraylength, 1) := by decide +kernel
theorem d_Law_law_21 : decode b_Law_law 21 = .ok (.iconst 4, 1) := by decide +kernel
theorem d_Law_law_22 : decode b_Law_law 22 = .ok (.isub, 1) := by decide +kernel
theorem d_Law_law_23 : decode b_Law_law 23 = .ok (.if_icmp .gt 435, 3) := by decide +kernel
theorem d_Law_law_26 : decode b_Law_law 26 = .ok (.aload_n 0, 1) := by decide +kernel
theorem d_Law_law_27 : decode b_Law_law 27 = .ok (.iload_n 3, 1) := by decide +kernel
theorem d_Law_law_28 : decode b_Law_law 28 = .ok (.iaload, 1) := by decide +kernel
theorem d_Law_law_29 : decode b_Law_law 29 = .ok (.bipush 15, 2) := by decide +kernel
theorem d_Law_law_31 : decode b_Law_law 31 = .ok (.iand, 1) := by decide +kernel
theorem d_Law_law_32 : decode b_Law_law 32 = .ok (.tableswitch 420 0 13 #[72, 105, 128, 139, 172, 185, 196, 229, 252, 265, 308, 321, 354, 387], 72) := by decide +kernel
theorem d_Law_law_104 : decode b_Law_law 104 = .ok (.aload_n 1, 1) := by decide +kernel
theorem d_Law_law_105 : decode b_Law_law 105 = .ok (.aload_n 0, 1) := by decide +kernel
theorem d_Law_law_106 : decode b_Law_law 106 = .ok (.iload_n 3, 1) := by decide +kernel
theorem d_Law_law_107 : decode b_Law_law 107 = .ok (.iconst 1, 1) := by decide +kernel
theorem d_Law_law_108 : decode b_Law_law 108 = .ok (.iadd, 1) := by decide +kernel
theorem d_Law_law_109 : decode b_Law_law 109 = .ok (.iaload, 1) := by decide +kernel
theorem d_Law_law_110 : decode b_Law_law 110 = .ok (.aload_n 0, 1) := by decide +kernel
theorem d_Law_law_111 : decode b_Law_law 111 = .ok (.iload_n 3, 1) := by decide +kernel
theorem d_Law_law_112 : decode b_Law_law 112 = .ok (.iconst 2, 1) := by decide +kernel
theorem d_Law_law_113 : decode b_Law_law 113 = .ok (.iadd, 1) := by decide +kernel
theorem d_Law_law_114 : decode b_Law_law 114 = .ok (.iaload, 1) := by decide +kernel
theorem d_Law_law_115 : decode b_Law_law 115 = .ok (.invokevirtual 13, 3) := by decide +kernel
theorem d_Law_law_118 : decode b_Law_law 118 = .ok (.aload_n 2, 1) := by decide +kernel
theorem d_Law_law_119 : decode b_Law_law 119 = .ok (.aload_n 0, 1) := by decide +kernel
theorem d_Law_law_120 : decode b_Law_law 120 = .ok (.iload_n 3, 1) := by decide +kernel
theorem d_Law_law_121 : decode b_Law_law 121 = .ok (.iconst 1, 1) := by decide +kernel
theorem d_Law_law_122 : decode b_Law_law 122 = .ok (.iadd, 1) := by decide +kernel
theorem d_Law_law_123 : decode b_Law_law 123 = .ok (.iaload, 1) := by decide +kernel
theorem d_Law_law_124 : decode b_Law_law 124 = .ok (.aload_n 0, 1) := by decide +kernel
theorem d_Law_law_125 : decode b_Law_law 125 = .ok (.iload_n 3, 1) := by decide +kernel
theorem d_Law_law_126 : decode b_Law_law 126 = .ok (.iconst 2, 1) := by decide +kernel
theorem d_Law_law_127 : decode b_Law_law 127 = .ok (.iadd, 1) := by decide +kernel
theorem d_Law_law_128 : decode b_Law_law 128 = .ok (.iaload, 1) := by decide +kernel
theorem d_Law_law_129 : decode b_Law_law 129 = .ok (.invokevirtual 17, 3) := by decide +kernel
theorem d_Law_law_132 : decode b_Law_law 132 = .ok (.if_icmp .eq 320, 3) := by decide +kernel
theorem d_Law_law_135 : decode b_Law_law 135 = .ok (.iconst 0, 1) := by decide +kernel
theorem d_Law_law_136 : decode b_Law_law 136 = .ok (.ireturn, 1) := by decide +kernel
theorem d_Law_law_137 : decode b_Law_law 137 = .ok (.aload_n 1, 1) := by decide +kernel
theorem d_Law_law_138 : decode b_Law_law 138 = .ok (.aload_n 0, 1) := by decide +kernel
theorem d_Law_law_139 : decode b_Law_law 139 = .ok (.iload_n 3, 1) := by decide +kernel
theorem d_Law_law_140 : decode b_Law_law 140 = .ok (.iconst 1, 1) := by decide +kernel
theorem d_Law_law_141 : decode b_Law_law 141 = .ok (.iadd, 1) := by decide +kernel
theorem d_Law_law_142 : decode b_Law_law 142 = .ok (.iaload, 1) := by decide +kernel
theorem d_Law_law_143 : decode b_Law_law 143 = .ok (.invokevirtual 18, 3) := by decide +kernel
theorem d_Law_law_146 : decode b_Law_law 146 = .ok (.aload_n 2, 1) := by decide +kernel
theorem d_Law_law_147 : decode b_Law_law 147 = .ok (.aload_n 0, 1) := by decide +kernel
theorem d_Law_law_148 : decode b_Law_law 148 = .ok (.iload_n 3, 1) := by decide +kernel
theorem d_Law_law_149 : decode b_Law_law 149 = .ok (.iconst 1, 1) := by decide +kernel
theorem d_Law_law_150 : decode b_Law_law 150 = .ok (.iadd, 1) := by decide +kernel
theorem d_Law_law_151 : decode b_Law_law 151 = .ok (.iaload, 1) := by decide +kernel
theorem d_Law_law_152 : decode b_Law_law 152 = .ok (.invokevirtual 22, 3) := by decide +kernel
theorem d_Law_law_155 : decode b_Law_law 155 = .ok (.if_icmp .eq 297, 3) := by decide +kernel
theorem d_Law_law_158 : decode b_Law_law 158 = .ok (.iconst 0, 1) := by decide +kernel
theorem d_Law_law_159 : decode b_Law_law 159 = .ok (.ireturn, 1) := by decide +kernel
theorem d_Law_law_160 : decode b_Law_law 160 = .ok (.aload_n 1, 1) := by decide +kernel
theorem d_Law_law_161 : decode b_Law_law 161 = .ok (.invokevirtual 23, 3) := by decide +kernel
theorem d_Law_law_164 : decode b_Law_law 164 = .ok (.aload_n 2, 1) := by decide +kernel
theorem d_Law_law_165 : decode b_Law_law 165 = .ok (.invokevirtual 26, 3) := by decide +kernel
theorem d_Law_law_168 : decode b_Law_law 168 = .ok (.goto 284, 3) := by decide +kernel
theorem d_Law_law_171 : decode b_Law_law 171 = .ok (.aload_n 1, 1) := by decide +kernel
theorem d_Law_law_172 : decode b_Law_law 172 = .ok (.aload_n 0, 1) := by decide +kernel
theorem d_Law_law_173 : decode b_Law_law 173 = .ok (.iload_n 3, 1) := by decide +kernel
theorem d_Law_law_174 : decode b_Law_law 174 = .ok (.iconst 1, 1) := by decide +kernel
theorem d_Law_law_175 : decode b_Law_law 175 = .ok (.iadd, 1) := by decide +kernel
theorem d_Law_law_176 : decode b_Law_law 176 = .ok (.iaload, 1) := by decide +kernel
theorem d_Law_law_177 : decode b_Law_law 177 = .ok (.aload_n 0, 1) := by decide +kernel
theorem d_Law_law_178 : decode b_Law_law 178 = .ok (.iload_n 3, 1) := by decide +kernel
theorem d_Law_law_179 : decode b_Law_law 179 = .ok (.iconst 2, 1) := by decide +kernel
theorem d_Law_law_180 : decode b_Law_law 180 = .ok (.iadd, 1) := by decide +kernel
theorem d_Law_law_181 : decode b_Law_law 181 = .ok (.iaload, 1) := by decide +kernel
theorem d_Law_law_182 : decode b_Law_law 182 = .ok (.invokevirtual 27, 3) := by decide +kernel
theorem d_Law_law_185 : decode b_Law_law 185 = .ok (.aload_n 2, 1) := by decide +kernel
theorem d_Law_law_186 : decode b_Law_law 186 = .ok (.aload_n 0, 1) := by decide +kernel
theorem d_Law_law_187 : decode b_Law_law 187 = .ok (.iload_n 3, 1) := by decide +kernel
theorem d_Law_law_188 : decode b_Law_law 188 = .ok (.iconst 1, 1) := by decide +kernel
theorem d_Law_law_189 : decode b_Law_law 189 = .ok (.iadd, 1) := by decide +kernel
theorem d_Law_law_190 : decode b_Law_law 190 = .ok (.iaload, 1) := by decide +kernel
theorem d_Law_law_191 : decode b_Law_law 191 = .ok (.aload_n 0, 1) := by decide +kernel
theorem d_Law_law_192 : decode b_Law_law 192 = .ok (.iload_n 3, 1) := by decide +kernel
theorem d_Law_law_193 : decode b_Law_law 193 = .ok (.iconst 2, 1) := by decide +kernel
theorem d_Law_law_194 : decode b_Law_law 194 = .ok (.iadd, 1) := by decide +kernel
theorem d_Law_law_195 : decode b_Law_law 195 = .ok (.iaload, 1) := by decide +kernel
theorem d_Law_law_196 : decode b_Law_law 196 = .ok (.invokevirtual 31, 3) := by decide +kernel
theorem d_Law_law_199 : decode b_Law_law 199 = .ok (.if_icmp .eq 253, 3) := by decide +kernel
theorem d_Law_law_202 : decode b_Law_law 202 = .ok (.iconst 0, 1) := by decide +kernel
theorem d_Law_law_203 : decode b_Law_law 203 = .ok (.ireturn, 1) := by decide +kernel
theorem d_Law_law_204 : decode b_Law_law 204 = .ok (.aload_n 1, 1) := by decide +kernel
theorem d_Law_law_205 : decode b_Law_law 205 = .ok (.invokevirtual 32, 3) := by decide +kernel
theorem d_Law_law_208 : decode b_Law_law 208 = .ok (.aload_n 2, 1) := by decide +kernel
theorem d_Law_law_209 : decode b_Law_law 209 = .ok (.invokevirtual 36, 3) := by decide +kernel
theorem d_Law_law_212 : decode b_Law_law 212 = .ok (.if_icmp .eq 240, 3) := by decide +kernel
theorem d_Law_law_215 : decode b_Law_law 215 = .ok (.iconst 0, 1) := by decide +kernel
theorem d_Law_law_216 : decode b_Law_law 216 = .ok (.ireturn, 1) := by decide +kernel
theorem d_Law_law_217 : decode b_Law_law 217 = .ok (.aload_n 1, 1) := by decide +kernel
theorem d_Law_law_218 : decode b_Law_law 218 = .ok (.invokevirtual 37, 3) := by decide +kernel
theorem d_Law_law_221 : decode b_Law_law 221 = .ok (.aload_n 2, 1) := by decide +kernel
theorem d_Law_law_222 : decode b_Law_law 222 = .ok (.invokevirtual 40, 3) := by decide +kernel
theorem d_Law_law_225 : decode b_Law_law 225 = .ok (.goto 227, 3) := by decide +kernel
theorem d_Law_law_228 : decode b_Law_law 228 = .ok (.aload_n 1, 1) := by decide +kernel
theorem d_Law_law_229 : decode b_Law_law 229 = .ok (.aload_n 0, 1) := by decide +kernel
theorem d_Law_law_230 : decode b_Law_law 230 = .ok (.iload_n 3, 1) := by decide +kernel
theorem d_Law_law_231 : decode b_Law_law 231 = .ok (.iconst 1, 1) := by decide +kernel
theorem d_Law_law_232 : decode b_Law_law 232 = .ok (.iadd, 1) := by decide +kernel
theorem d_Law_law_233 : decode b_Law_law 233 = .ok (.iaload, 1) := by decide +kernel
theorem d_Law_law_234 : decode b_Law_law 234 = .ok (.aload_n 0, 1) := by decide +kernel
theorem d_Law_law_235 : decode b_Law_law 235 = .ok (.iload_n 3, 1) := by decide +kernel
theorem d_Law_law_236 : decode b_Law_law 236 = .ok (.iconst 2, 1) := by decide +kernel
theorem d_Law_law_237 : decode b_Law_law 237 = .ok (.iadd, 1) := by decide +kernel
theorem d_Law_law_238 : decode b_Law_law 238 = .ok (.iaload, 1) := by decide +kernel
theorem d_Law_law_239 : decode b_Law_law 239 = .ok (.invokevirtual 41, 3) := by decide +kernel
theorem d_Law_law_242 : decode b_Law_law 242 = .ok (.aload_n 2, 1) := by decide +kernel
theorem d_Law_law_243 : decode b_Law_law 243 = .ok (.aload_n 0, 1) := by decide +kernel
theorem d_Law_law_244 : decode b_Law_law 244 = .ok (.iload_n 3, 1) := by decide +kernel
theorem d_Law_law_245 : decode b_Law_law 245 = .ok (.iconst 1, 1) := by decide +kernel
theorem d_Law_law_246 : decode b_Law_law 246 = .ok (.iadd, 1) := by decide +kernel
theorem d_Law_law_247 : decode b_Law_law 247 = .ok (.iaload, 1) := by decide +kernel
theorem d_Law_law_248 : decode b_Law_law 248 = .ok (.aload_n 0, 1) := by decide +kernel
theorem d_Law_law_249 : decode b_Law_law 249 = .ok (.iload_n 3, 1) := by decide +kernel
theorem d_Law_law_250 : decode b_Law_law 250 = .ok (.iconst 2, 1) := by decide +kernel
theorem d_Law_law_251 : decode b_Law_law 251 = .ok (.iadd, 1) := by decide +kernel
theorem d_Law_law_252 : decode b_Law_law 252 = .ok (.iaload, 1) := by decide +kernel
theorem d_Law_law_253 : decode b_Law_law 253 = .ok (.invokevirtual 44, 3) := by decide +kernel
theorem d_Law_law_256 : decode b_Law_law 256 = .ok (.if_icmp .eq 196, 3) := by decide +kernel
theorem d_Law_law_259 : decode b_Law_law 259 = .ok (.iconst 0, 1) := by decide +kernel
theorem d_Law_law_260 : decode b_Law_law 260 = .ok (.ireturn, 1) := by decide +kernel
theorem d_Law_law_261 : decode b_Law_law 261 = .ok (.aload_n 1, 1) := by decide +kernel
theorem d_Law_law_262 : decode b_Law_law 262 = .ok (.aload_n 0, 1) := by decide +kernel
theorem d_Law_law_263 : decode b_Law_law 263 = .ok (.iload_n 3, 1) := by decide +kernel
theorem d_Law_law_264 : decode b_Law_law 264 = .ok (.iconst 1, 1) := by decide +kernel
theorem d_Law_law_265 : decode b_Law_law 265 = .ok (.iadd, 1) := by decide +kernel
theorem d_Law_law_266 : decode b_Law_law 266 = .ok (.iaload, 1) := by decide +kernel
theorem d_Law_law_267 : decode b_Law_law 267 = .ok (.invokevirtual 45, 3) := by decide +kernel
theorem d_Law_law_270 : decode b_Law_law 270 = .ok (.aload_n 2, 1) := by decide +kernel
theorem d_Law_law_271 : decode b_Law_law 271 = .ok (.aload_n 0, 1) := by decide +kernel
theorem d_Law_law_272 : decode b_Law_law 272 = .ok (.iload_n 3, 1) := by decide +kernel
theorem d_Law_law_273 : decode b_Law_law 273 = .ok (.iconst 1, 1) := by decide +kernel
theorem d_Law_law_274 : decode b_Law_law 274 = .ok (.iadd, 1) := by decide +kernel
theorem d_Law_law_275 : decode b_Law_law 275 = .ok (.iaload, 1) := by decide +kernel
theorem d_Law_law_276 : decode b_Law_law 276 = .ok (.invokevirtual 49, 3) := by decide +kernel
theorem d_Law_law_279 : decode b_Law_law 279 = .ok (.if_icmp .eq 173, 3) := by decide +kernel
theorem d_Law_law_282 : decode b_Law_law 282 = .ok (.iconst 0, 1) := by decide +kernel
theorem d_Law_law_283 : decode b_Law_law 283 = .ok (.ireturn, 1) := by decide +kernel
theorem d_Law_law_284 : decode b_Law_law 284 = .ok (.aload_n 1, 1) := by decide +kernel
theorem d_Law_law_285 : decode b_Law_law 285 = .ok (.invokevirtual 50, 3) := by decide +kernel
theorem d_Law_law_288 : decode b_Law_law 288 = .ok (.aload_n 2, 1) := by decide +kernel
theorem d_Law_law_289 : decode b_Law_law 289 = .ok (.invokevirtual 53, 3) := by decide +kernel
theorem d_Law_law_292 : decode b_Law_law 292 = .ok (.if_icmp .eq 160, 3) := by decide +kernel
theorem d_Law_law_295 : decode b_Law_law 295 = .ok (.iconst 0, 1) := by decide +kernel
theorem d_Law_law_296 : decode b_Law_law 296 = .ok (.ireturn, 1) := by decide +kernel
theorem d_Law_law_297 : decode b_Law_law 297 = .ok (.aload_n 1, 1) := by decide +kernel
theorem d_Law_law_298 : decode b_Law_law 298 = .ok (.aload_n 0, 1) := by decide +kernel
theorem d_Law_law_299 : decode b_Law_law 299 = .ok (.iload_n 3, 1) := by decide +kernel
theorem d_Law_law_300 : decode b_Law_law 300 = .ok (.iconst 1, 1) := by decide +kernel
theorem d_Law_law_301 : decode b_Law_law 301 = .ok (.iadd, 1) := by decide +kernel
theorem d_Law_law_302 : decode b_Law_law 302 = .ok (.iaload, 1) := by decide +kernel
theorem d_Law_law_303 : decode b_Law_law 303 = .ok (.aload_n 0, 1) := by decide +kernel
theorem d_Law_law_304 : decode b_Law_law 304 = .ok (.iload_n 3, 1) := by decide +kernel
theorem d_Law_law_305 : decode b_Law_law 305 = .ok (.iconst 2, 1) := by decide +kernel
theorem d_Law_law_306 : decode b_Law_law 306 = .ok (.iadd, 1) := by decide +kernel
theorem d_Law_law_307 : decode b_Law_law 307 = .ok (.iaload, 1) := by decide +kernel
theorem d_Law_law_308 : decode b_Law_law 308 = .ok (.aload_n 0, 1) := by decide +kernel
theorem d_Law_law_309 : decode b_Law_law 309 = .ok (.iload_n 3, 1) := by decide +kernel
theorem d_Law_law_310 : decode b_Law_law 310 = .ok (.iconst 3, 1) := by decide +kernel
theorem d_Law_law_311 : decode b_Law_law 311 = .ok (.iadd, 1) := by decide +kernel
theorem d_Law_law_312 : decode b_Law_law 312 = .ok (.iaload, 1) := by decide +kernel
theorem d_Law_law_313 : decode b_Law_law 313 = .ok (.invokevirtual 54, 3) := by decide +kernel
theorem d_Law_law_316 : decode b_Law_law 316 = .ok (.aload_n 2, 1) := by decide +kernel
theorem d_Law_law_317 : decode b_Law_law 317 = .ok (.aload_n 0, 1) := by decide +kernel
theorem d_Law_law_318 : decode b_Law_law 318 = .ok (.iload_n 3, 1) := by decide +kernel
theorem d_Law_law_319 : decode b_Law_law 319 = .ok (.iconst 1, 1) := by decide +kernel
theorem d_Law_law_320 : decode b_Law_law 320 = .ok (.iadd, 1) := by decide +kernel
theorem d_Law_law_321 : decode b_Law_law 321 = .ok (.iaload, 1) := by decide +kernel
theorem d_Law_law_322 : decode b_Law_law 322 = .ok (.aload_n 0, 1) := by decide +kernel
theorem d_Law_law_323 : decode b_Law_law 323 = .ok (.iload_n 3, 1) := by decide +kernel
theorem d_Law_law_324 : decode b_Law_law 324 = .ok (.iconst 2, 1) := by decide +kernel
theorem d_Law_law_325 : decode b_Law_law 325 = .ok (.iadd, 1) := by decide +kernel
theorem d_Law_law_326 : decode b_Law_law 326 = .ok (.iaload, 1) := by decide +kernel
theorem d_Law_law_327 : decode b_Law_law 327 = .ok (.aload_n 0, 1) := by decide +kernel
theorem d_Law_law_328 : decode b_Law_law 328 = .ok (.iload_n 3, 1) := by decide +kernel
theorem d_Law_law_329 : decode b_Law_law 329 = .ok (.iconst 3, 1) := by decide +kernel
theorem d_Law_law_330 : decode b_Law_law 330 = .ok (.iadd, 1) := by decide +kernel
theorem d_Law_law_331 : decode b_Law_law 331 = .ok (.iaload, 1) := by decide +kernel
theorem d_Law_law_332 : decode b_Law_law 332 = .ok (.invokevirtual 58, 3) := by decide +kernel
theorem d_Law_law_335 : decode b_Law_law 335 = .ok (.if_icmp .eq 117, 3) := by decide +kernel
theorem d_Law_law_338 : decode b_Law_law 338 = .ok (.iconst 0, 1) := by decide +kernel
theorem d_Law_law_339 : decode b_Law_law 339 = .ok (.ireturn, 1) := by decide +kernel
theorem d_Law_law_340 : decode b_Law_law 340 = .ok (.aload_n 1, 1) := by decide +kernel
theorem d_Law_law_341 : decode b_Law_law 341 = .ok (.invokevirtual 59, 3) := by decide +kernel
theorem d_Law_law_344 : decode b_Law_law 344 = .ok (.aload_n 2, 1) := by decide +kernel
theorem d_Law_law_345 : decode b_Law_law 345 = .ok (.invokevirtual 62, 3) := by decide +kernel
theorem d_Law_law_348 : decode b_Law_law 348 = .ok (.if_icmp .eq 104, 3) := by decide +kernel
theorem d_Law_law_351 : decode b_Law_law 351 = .ok (.iconst 0, 1) := by decide +kernel
theorem d_Law_law_352 : decode b_Law_law 352 = .ok (.ireturn, 1) := by decide +kernel
theorem d_Law_law_353 : decode b_Law_law 353 = .ok (.aload_n 1, 1) := by decide +kernel
theorem d_Law_law_354 : decode b_Law_law 354 = .ok (.aload_n 0, 1) := by decide +kernel
theorem d_Law_law_355 : decode b_Law_law 355 = .ok (.iload_n 3, 1) := by decide +kernel
theorem d_Law_law_356 : decode b_Law_law 356 = .ok (.iconst 1, 1) := by decide +kernel
theorem d_Law_law_357 : decode b_Law_law 357 = .ok (.iadd, 1) := by decide +kernel
theorem d_Law_law_358 : decode b_Law_law 358 = .ok (.iaload, 1) := by decide +kernel
theorem d_Law_law_359 : decode b_Law_law 359 = .ok (.aload_n 0, 1) := by decide +kernel
theorem d_Law_law_360 : decode b_Law_law 360 = .ok (.iload_n 3, 1) := by decide +kernel
theorem d_Law_law_361 : decode b_Law_law 361 = .ok (.iconst 2, 1) := by decide +kernel
theorem d_Law_law_362 : decode b_Law_law 362 = .ok (.iadd, 1) := by decide +kernel
theorem d_Law_law_363 : decode b_Law_law 363 = .ok (.iaload, 1) := by decide +kernel
theorem d_Law_law_364 : decode b_Law_law 364 = .ok (.invokevirtual 63, 3) := by decide +kernel
theorem d_Law_law_367 : decode b_Law_law 367 = .ok (.aload_n 2, 1) := by decide +kernel
theorem d_Law_law_368 : decode b_Law_law 368 = .ok (.aload_n 0, 1) := by decide +kernel
theorem d_Law_law_369 : decode b_Law_law 369 = .ok (.iload_n 3, 1) := by decide +kernel
theorem d_Law_law_370 : decode b_Law_law 370 = .ok (.iconst 1, 1) := by decide +kernel
theorem d_Law_law_371 : decode b_Law_law 371 = .ok (.iadd, 1) := by decide +kernel
theorem d_Law_law_372 : decode b_Law_law 372 = .ok (.iaload, 1) := by decide +kernel
theorem d_Law_law_373 : decode b_Law_law 373 = .ok (.aload_n 0, 1) := by decide +kernel
theorem d_Law_law_374 : decode b_Law_law 374 = .ok (.iload_n 3, 1) := by decide +kernel
theorem d_Law_law_375 : decode b_Law_law 375 = .ok (.iconst 2, 1) := by decide +kernel
theorem d_Law_law_376 : decode b_Law_law 376 = .ok (.iadd, 1) := by decide +kernel
theorem d_Law_law_377 : decode b_Law_law 377 = .ok (.iaload, 1) := by decide +kernel
theorem d_Law_law_378 : decode b_Law_law 378 = .ok (.invokevirtual 66, 3) := by decide +kernel
theorem d_Law_law_381 : decode b_Law_law 381 = .ok (.if_icmp .eq 71, 3) := by decide +kernel
theorem d_Law_law_384 : decode b_Law_law 384 = .ok (.iconst 0, 1) := by decide +kernel
theorem d_Law_law_385 : decode b_Law_law 385 = .ok (.ireturn, 1) := by decide +kernel
theorem d_Law_law_386 : decode b_Law_law 386 = .ok (.aload_n 1, 1) := by decide +kernel
theorem d_Law_law_387 : decode b_Law_law 387 = .ok (.aload_n 0, 1) := by decide +kernel
theorem d_Law_law_388 : decode b_Law_law 388 = .ok (.iload_n 3, 1) := by decide +kernel
theorem d_Law_law_389 : decode b_Law_law 389 = .ok (.iconst 1, 1) := by decide +kernel
theorem d_Law_law_390 : decode b_Law_law 390 = .ok (.iadd, 1) := by decide +kernel
theorem d_Law_law_391 : decode b_Law_law 391 = .ok (.iaload, 1) := by decide +kernel
theorem d_Law_law_392 : decode b_Law_law 392 = .ok (.aload_n 0, 1) := by decide +kernel
theorem d_Law_law_393 : decode b_Law_law 393 = .ok (.iload_n 3, 1) := by decide +kernel
theorem d_Law_law_394 : decode b_Law_law 394 = .ok (.iconst 2, 1) := by decide +kernel
theorem d_Law_law_395 : decode b_Law_law 395 = .ok (.iadd, 1) := by decide +kernel
theorem d_Law_law_396 : decode b_Law_law 396 = .ok (.iaload, 1) := by decide +kernel
theorem d_Law_law_397 : decode b_Law_law 397 = .ok (.invokevirtual 67, 3) := by decide +kernel
theorem d_Law_law_400 : decode b_Law_law 400 = .ok (.aload_n 2, 1) := by decide +kernel
theorem d_Law_law_401 : decode b_Law_law 401 = .ok (.aload_n 0, 1) := by decide +kernel
theorem d_Law_law_402 : decode b_Law_law 402 = .ok (.iload_n 3, 1) := by decide +kernel
theorem d_Law_law_403 : decode b_Law_law 403 = .ok (.iconst 1, 1) := by decide +kernel
theorem d_Law_law_404 : decode b_Law_law 404 = .ok (.iadd, 1) := by decide +kernel
theorem d_Law_law_405 : decode b_Law_law 405 = .ok (.iaload, 1) := by decide +kernel
theorem d_Law_law_406 : decode b_Law_law 406 = .ok (.aload_n 0, 1) := by decide +kernel
theorem d_Law_law_407 : decode b_Law_law 407 = .ok (.iload_n 3, 1) := by decide +kernel
theorem d_Law_law_408 : decode b_Law_law 408 = .ok (.iconst 2, 1) := by decide +kernel
theorem d_Law_law_409 : decode b_Law_law 409 = .ok (.iadd, 1) := by decide +kernel
theorem d_Law_law_410 : decode b_Law_law 410 = .ok (.iaload, 1) := by decide +kernel
theorem d_Law_law_411 : decode b_Law_law 411 = .ok (.invokevirtual 70, 3) := by decide +kernel
theorem d_Law_law_414 : decode b_Law_law 414 = .ok (.if_icmp .eq 38, 3) := by decide +kernel
theorem d_Law_law_417 : decode b_Law_law 417 = .ok (.iconst 0, 1) := by decide +kernel
theorem d_Law_law_418 : decode b_Law_law 418 = .ok (.ireturn, 1) := by decide +kernel
theorem d_Law_law_419 : decode b_Law_law 419 = .ok (.aload_n 1, 1) := by decide +kernel
theorem d_Law_law_420 : decode b_Law_law 420 = .ok (.aload_n 0, 1) := by decide +kernel
theorem d_Law_law_421 : decode b_Law_law 421 = .ok (.iload_n 3, 1) := by decide +kernel
theorem d_Law_law_422 : decode b_Law_law 422 = .ok (.iconst 1, 1) := by decide +kernel
theorem d_Law_law_423 : decode b_Law_law 423 = .ok (.iadd, 1) := by decide +kernel
theorem d_Law_law_424 : decode b_Law_law 424 = .ok (.iaload, 1) := by decide +kernel
theorem d_Law_law_425 : decode b_Law_law 425 = .ok (.aload_n 0, 1) := by decide +kernel
theorem d_Law_law_426 : decode b_Law_law 426 = .ok (.iload_n 3, 1) := by decide +kernel
theorem d_Law_law_427 : decode b_Law_law 427 = .ok (.iconst 2, 1) := by decide +kernel
theorem d_Law_law_428 : decode b_Law_law 428 = .ok (.iadd, 1) := by decide +kernel
theorem d_Law_law_429 : decode b_Law_law 429 = .ok (.iaload, 1) := by decide +kernel
theorem d_Law_law_430 : decode b_Law_law 430 = .ok (.invokevirtual 71, 3) := by decide +kernel
theorem d_Law_law_433 : decode b_Law_law 433 = .ok (.aload_n 2, 1) := by decide +kernel
theorem d_Law_law_434 : decode b_Law_law 434 = .ok (.aload_n 0, 1) := by decide +kernel
theorem d_Law_law_435 : decode b_Law_law 435 = .ok (.iload_n 3, 1) := by decide +kernel
theorem d_Law_law_436 : decode b_Law_law 436 = .ok (.iconst 1, 1) := by decide +kernel
theorem d_Law_law_437 : decode b_Law_law 437 = .ok (.iadd, 1) := by decide +kernel
theorem d_Law_law_438 : decode b_Law_law 438 = .ok (.iaload, 1) := by decide +kernel
theorem d_Law_law_439 : decode b_Law_law 439 = .ok (.aload_n 0, 1) := by decide +kernel
theorem d_Law_law_440 : decode b_Law_law 440 = .ok (.iload_n 3, 1) := by decide +kernel
theorem d_Law_law_441 : decode b_Law_law 441 = .ok (.iconst 2, 1) := by decide +kernel
theorem d_Law_law_442 : decode b_Law_law 442 = .ok (.iadd, 1) := by decide +kernel
theorem d_Law_law_443 : decode b_Law_law 443 = .ok (.iaload, 1) := by decide +kernel
theorem d_Law_law_444 : decode b_Law_law 444 = .ok (.invokevirtual 74, 3) := by decide +kernel
theorem d_Law_law_447 : decode b_Law_law 447 = .ok (.if_icmp .eq 5, 3) := by decide +kernel
theorem d_Law_law_450 : decode b_Law_law 450 = .ok (.iconst 0, 1) := by decide +kernel
theorem d_Law_law_451 : decode b_Law_law 451 = .ok (.ireturn, 1) := by decide +kernel
theorem d_Law_law_452 : decode b_Law_law 452 = .ok (.iinc 3 4, 3) := by decide +kernel
theorem d_Law_law_455 : decode b_Law_law 455 = .ok (.goto (-437), 3) := by decide +kernel
theorem d_Law_law_458 : decode b_Law_law 458 = .ok (.iconst 1, 1) := by decide +kernel
theorem d_Law_law_459 : decode b_Law_law 459 = .ok (.ireturn, 1) := by decide +kernel
