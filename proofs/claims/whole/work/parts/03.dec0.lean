theorem dL_law_0 : decode cL_law 0 = .ok (.new 7, 3) := by decide +kernel
theorem dL_law_3 : decode cL_law 3 = .ok (.dup, 1) := by decide +kernel
theorem dL_law_4 : decode cL_law 4 = .ok (.invokespecial 9, 3) := by decide +kernel
theorem dL_law_7 : decode cL_law 7 = .ok (.astore_n 1, 1) := by decide +kernel
theorem dL_law_8 : decode cL_law 8 = .ok (.new 10, 3) := by decide +kernel
theorem dL_law_11 : decode cL_law 11 = .ok (.dup, 1) := by decide +kernel
theorem dL_law_12 : decode cL_law 12 = .ok (.invokespecial 12, 3) := by decide +kernel
theorem dL_law_15 : decode cL_law 15 = .ok (.astore_n 2, 1) := by decide +kernel
theorem dL_law_16 : decode cL_law 16 = .ok (.iconst 0, 1) := by decide +kernel
theorem dL_law_17 : decode cL_law 17 = .ok (.istore_n 3, 1) := by decide +kernel
theorem dL_law_18 : decode cL_law 18 = .ok (.iload_n 3, 1) := by decide +kernel
theorem dL_law_19 : decode cL_law 19 = .ok (.aload_n 0, 1) := by decide +kernel
theorem dL_law_20 : decode cL_law 20 = .ok (.arraylength, 1) := by decide +kernel
theorem dL_law_21 : decode cL_law 21 = .ok (.bipush 6, 2) := by decide +kernel
theorem dL_law_23 : decode cL_law 23 = .ok (.isub, 1) := by decide +kernel
theorem dL_law_24 : decode cL_law 24 = .ok (.if_icmp .gt 622, 3) := by decide +kernel
theorem dL_law_27 : decode cL_law 27 = .ok (.aload_n 0, 1) := by decide +kernel
theorem dL_law_28 : decode cL_law 28 = .ok (.iload_n 3, 1) := by decide +kernel
theorem dL_law_29 : decode cL_law 29 = .ok (.iaload, 1) := by decide +kernel
theorem dL_law_30 : decode cL_law 30 = .ok (.bipush 15, 2) := by decide +kernel
theorem dL_law_32 : decode cL_law 32 = .ok (.iand, 1) := by decide +kernel
theorem dL_law_33 : decode cL_law 33 = .ok (.tableswitch 607 0 15 #[79, 122, 155, 198, 261, 284, 307, 330, 343, 366, 409, 442, 475, 518, 541, 574], 79) := by decide +kernel
theorem dL_law_112 : decode cL_law 112 = .ok (.aload_n 1, 1) := by decide +kernel
theorem dL_law_113 : decode cL_law 113 = .ok (.aload_n 0, 1) := by decide +kernel
theorem dL_law_114 : decode cL_law 114 = .ok (.iload_n 3, 1) := by decide +kernel
theorem dL_law_115 : decode cL_law 115 = .ok (.iconst 1, 1) := by decide +kernel
theorem dL_law_116 : decode cL_law 116 = .ok (.iadd, 1) := by decide +kernel
theorem dL_law_117 : decode cL_law 117 = .ok (.iaload, 1) := by decide +kernel
theorem dL_law_118 : decode cL_law 118 = .ok (.aload_n 0, 1) := by decide +kernel
theorem dL_law_119 : decode cL_law 119 = .ok (.iload_n 3, 1) := by decide +kernel
theorem dL_law_120 : decode cL_law 120 = .ok (.iconst 2, 1) := by decide +kernel
theorem dL_law_121 : decode cL_law 121 = .ok (.iadd, 1) := by decide +kernel
theorem dL_law_122 : decode cL_law 122 = .ok (.iaload, 1) := by decide +kernel
theorem dL_law_123 : decode cL_law 123 = .ok (.aload_n 0, 1) := by decide +kernel
theorem dL_law_124 : decode cL_law 124 = .ok (.iload_n 3, 1) := by decide +kernel
theorem dL_law_125 : decode cL_law 125 = .ok (.iconst 3, 1) := by decide +kernel
theorem dL_law_126 : decode cL_law 126 = .ok (.iadd, 1) := by decide +kernel
theorem dL_law_127 : decode cL_law 127 = .ok (.iaload, 1) := by decide +kernel
theorem dL_law_128 : decode cL_law 128 = .ok (.invokevirtual 13, 3) := by decide +kernel
theorem dL_law_131 : decode cL_law 131 = .ok (.aload_n 2, 1) := by decide +kernel
theorem dL_law_132 : decode cL_law 132 = .ok (.aload_n 0, 1) := by decide +kernel
theorem dL_law_133 : decode cL_law 133 = .ok (.iload_n 3, 1) := by decide +kernel
theorem dL_law_134 : decode cL_law 134 = .ok (.iconst 1, 1) := by decide +kernel
theorem dL_law_135 : decode cL_law 135 = .ok (.iadd, 1) := by decide +kernel
theorem dL_law_136 : decode cL_law 136 = .ok (.iaload, 1) := by decide +kernel
theorem dL_law_137 : decode cL_law 137 = .ok (.aload_n 0, 1) := by decide +kernel
theorem dL_law_138 : decode cL_law 138 = .ok (.iload_n 3, 1) := by decide +kernel
theorem dL_law_139 : decode cL_law 139 = .ok (.iconst 2, 1) := by decide +kernel
theorem dL_law_140 : decode cL_law 140 = .ok (.iadd, 1) := by decide +kernel
theorem dL_law_141 : decode cL_law 141 = .ok (.iaload, 1) := by decide +kernel
theorem dL_law_142 : decode cL_law 142 = .ok (.aload_n 0, 1) := by decide +kernel
theorem dL_law_143 : decode cL_law 143 = .ok (.iload_n 3, 1) := by decide +kernel
theorem dL_law_144 : decode cL_law 144 = .ok (.iconst 3, 1) := by decide +kernel
theorem dL_law_145 : decode cL_law 145 = .ok (.iadd, 1) := by decide +kernel
theorem dL_law_146 : decode cL_law 146 = .ok (.iaload, 1) := by decide +kernel
theorem dL_law_147 : decode cL_law 147 = .ok (.invokevirtual 17, 3) := by decide +kernel
theorem dL_law_150 : decode cL_law 150 = .ok (.if_icmp .eq 490, 3) := by decide +kernel
theorem dL_law_153 : decode cL_law 153 = .ok (.iconst 0, 1) := by decide +kernel
theorem dL_law_154 : decode cL_law 154 = .ok (.ireturn, 1) := by decide +kernel
theorem dL_law_155 : decode cL_law 155 = .ok (.aload_n 1, 1) := by decide +kernel
theorem dL_law_156 : decode cL_law 156 = .ok (.aload_n 0, 1) := by decide +kernel
theorem dL_law_157 : decode cL_law 157 = .ok (.iload_n 3, 1) := by decide +kernel
theorem dL_law_158 : decode cL_law 158 = .ok (.iconst 1, 1) := by decide +kernel
theorem dL_law_159 : decode cL_law 159 = .ok (.iadd, 1) := by decide +kernel
theorem dL_law_160 : decode cL_law 160 = .ok (.iaload, 1) := by decide +kernel
theorem dL_law_161 : decode cL_law 161 = .ok (.aload_n 0, 1) := by decide +kernel
theorem dL_law_162 : decode cL_law 162 = .ok (.iload_n 3, 1) := by decide +kernel
theorem dL_law_163 : decode cL_law 163 = .ok (.iconst 2, 1) := by decide +kernel
theorem dL_law_164 : decode cL_law 164 = .ok (.iadd, 1) := by decide +kernel
theorem dL_law_165 : decode cL_law 165 = .ok (.iaload, 1) := by decide +kernel
theorem dL_law_166 : decode cL_law 166 = .ok (.invokevirtual 18, 3) := by decide +kernel
theorem dL_law_169 : decode cL_law 169 = .ok (.aload_n 2, 1) := by decide +kernel
theorem dL_law_170 : decode cL_law 170 = .ok (.aload_n 0, 1) := by decide +kernel
theorem dL_law_171 : decode cL_law 171 = .ok (.iload_n 3, 1) := by decide +kernel
theorem dL_law_172 : decode cL_law 172 = .ok (.iconst 1, 1) := by decide +kernel
theorem dL_law_173 : decode cL_law 173 = .ok (.iadd, 1) := by decide +kernel
theorem dL_law_174 : decode cL_law 174 = .ok (.iaload, 1) := by decide +kernel
theorem dL_law_175 : decode cL_law 175 = .ok (.aload_n 0, 1) := by decide +kernel
theorem dL_law_176 : decode cL_law 176 = .ok (.iload_n 3, 1) := by decide +kernel
theorem dL_law_177 : decode cL_law 177 = .ok (.iconst 2, 1) := by decide +kernel
theorem dL_law_178 : decode cL_law 178 = .ok (.iadd, 1) := by decide +kernel
theorem dL_law_179 : decode cL_law 179 = .ok (.iaload, 1) := by decide +kernel
theorem dL_law_180 : decode cL_law 180 = .ok (.invokevirtual 22, 3) := by decide +kernel
theorem dL_law_183 : decode cL_law 183 = .ok (.if_icmp .eq 457, 3) := by decide +kernel
theorem dL_law_186 : decode cL_law 186 = .ok (.iconst 0, 1) := by decide +kernel
theorem dL_law_187 : decode cL_law 187 = .ok (.ireturn, 1) := by decide +kernel
theorem dL_law_188 : decode cL_law 188 = .ok (.aload_n 1, 1) := by decide +kernel
theorem dL_law_189 : decode cL_law 189 = .ok (.aload_n 0, 1) := by decide +kernel
theorem dL_law_190 : decode cL_law 190 = .ok (.iload_n 3, 1) := by decide +kernel
theorem dL_law_191 : decode cL_law 191 = .ok (.iconst 1, 1) := by decide +kernel
theorem dL_law_192 : decode cL_law 192 = .ok (.iadd, 1) := by decide +kernel
theorem dL_law_193 : decode cL_law 193 = .ok (.iaload, 1) := by decide +kernel
theorem dL_law_194 : decode cL_law 194 = .ok (.aload_n 0, 1) := by decide +kernel
theorem dL_law_195 : decode cL_law 195 = .ok (.iload_n 3, 1) := by decide +kernel
theorem dL_law_196 : decode cL_law 196 = .ok (.iconst 2, 1) := by decide +kernel
theorem dL_law_197 : decode cL_law 197 = .ok (.iadd, 1) := by decide +kernel
theorem dL_law_198 : decode cL_law 198 = .ok (.iaload, 1) := by decide +kernel
theorem dL_law_199 : decode cL_law 199 = .ok (.aload_n 0, 1) := by decide +kernel
theorem dL_law_200 : decode cL_law 200 = .ok (.iload_n 3, 1) := by decide +kernel
theorem dL_law_201 : decode cL_law 201 = .ok (.iconst 3, 1) := by decide +kernel
theorem dL_law_202 : decode cL_law 202 = .ok (.iadd, 1) := by decide +kernel
theorem dL_law_203 : decode cL_law 203 = .ok (.iaload, 1) := by decide +kernel
theorem dL_law_204 : decode cL_law 204 = .ok (.invokevirtual 23, 3) := by decide +kernel
theorem dL_law_207 : decode cL_law 207 = .ok (.aload_n 2, 1) := by decide +kernel
theorem dL_law_208 : decode cL_law 208 = .ok (.aload_n 0, 1) := by decide +kernel
theorem dL_law_209 : decode cL_law 209 = .ok (.iload_n 3, 1) := by decide +kernel
theorem dL_law_210 : decode cL_law 210 = .ok (.iconst 1, 1) := by decide +kernel
theorem dL_law_211 : decode cL_law 211 = .ok (.iadd, 1) := by decide +kernel
theorem dL_law_212 : decode cL_law 212 = .ok (.iaload, 1) := by decide +kernel
theorem dL_law_213 : decode cL_law 213 = .ok (.aload_n 0, 1) := by decide +kernel
theorem dL_law_214 : decode cL_law 214 = .ok (.iload_n 3, 1) := by decide +kernel
theorem dL_law_215 : decode cL_law 215 = .ok (.iconst 2, 1) := by decide +kernel
theorem dL_law_216 : decode cL_law 216 = .ok (.iadd, 1) := by decide +kernel
theorem dL_law_217 : decode cL_law 217 = .ok (.iaload, 1) := by decide +kernel
theorem dL_law_218 : decode cL_law 218 = .ok (.aload_n 0, 1) := by decide +kernel
theorem dL_law_219 : decode cL_law 219 = .ok (.iload_n 3, 1) := by decide +kernel
theorem dL_law_220 : decode cL_law 220 = .ok (.iconst 3, 1) := by decide +kernel
theorem dL_law_221 : decode cL_law 221 = .ok (.iadd, 1) := by decide +kernel
theorem dL_law_222 : decode cL_law 222 = .ok (.iaload, 1) := by decide +kernel
theorem dL_law_223 : decode cL_law 223 = .ok (.invokevirtual 27, 3) := by decide +kernel
theorem dL_law_226 : decode cL_law 226 = .ok (.if_icmp .eq 414, 3) := by decide +kernel
theorem dL_law_229 : decode cL_law 229 = .ok (.iconst 0, 1) := by decide +kernel
theorem dL_law_230 : decode cL_law 230 = .ok (.ireturn, 1) := by decide +kernel
theorem dL_law_231 : decode cL_law 231 = .ok (.aload_n 1, 1) := by decide +kernel
theorem dL_law_232 : decode cL_law 232 = .ok (.aload_n 0, 1) := by decide +kernel
theorem dL_law_233 : decode cL_law 233 = .ok (.iload_n 3, 1) := by decide +kernel
theorem dL_law_234 : decode cL_law 234 = .ok (.iconst 1, 1) := by decide +kernel
theorem dL_law_235 : decode cL_law 235 = .ok (.iadd, 1) := by decide +kernel
theorem dL_law_236 : decode cL_law 236 = .ok (.iaload, 1) := by decide +kernel
theorem dL_law_237 : decode cL_law 237 = .ok (.aload_n 0, 1) := by decide +kernel
theorem dL_law_238 : decode cL_law 238 = .ok (.iload_n 3, 1) := by decide +kernel
theorem dL_law_239 : decode cL_law 239 = .ok (.iconst 2, 1) := by decide +kernel
theorem dL_law_240 : decode cL_law 240 = .ok (.iadd, 1) := by decide +kernel
theorem dL_law_241 : decode cL_law 241 = .ok (.iaload, 1) := by decide +kernel
theorem dL_law_242 : decode cL_law 242 = .ok (.aload_n 0, 1) := by decide +kernel
theorem dL_law_243 : decode cL_law 243 = .ok (.iload_n 3, 1) := by decide +kernel
theorem dL_law_244 : decode cL_law 244 = .ok (.iconst 3, 1) := by decide +kernel
theorem dL_law_245 : decode cL_law 245 = .ok (.iadd, 1) := by decide +kernel
theorem dL_law_246 : decode cL_law 246 = .ok (.iaload, 1) := by decide +kernel
theorem dL_law_247 : decode cL_law 247 = .ok (.aload_n 0, 1) := by decide +kernel
theorem dL_law_248 : decode cL_law 248 = .ok (.iload_n 3, 1) := by decide +kernel
theorem dL_law_249 : decode cL_law 249 = .ok (.iconst 4, 1) := by decide +kernel
theorem dL_law_250 : decode cL_law 250 = .ok (.iadd, 1) := by decide +kernel
theorem dL_law_251 : decode cL_law 251 = .ok (.iaload, 1) := by decide +kernel
theorem dL_law_252 : decode cL_law 252 = .ok (.aload_n 0, 1) := by decide +kernel
theorem dL_law_253 : decode cL_law 253 = .ok (.iload_n 3, 1) := by decide +kernel
theorem dL_law_254 : decode cL_law 254 = .ok (.iconst 5, 1) := by decide +kernel
theorem dL_law_255 : decode cL_law 255 = .ok (.iadd, 1) := by decide +kernel
theorem dL_law_256 : decode cL_law 256 = .ok (.iaload, 1) := by decide +kernel
theorem dL_law_257 : decode cL_law 257 = .ok (.invokevirtual 28, 3) := by decide +kernel
theorem dL_law_260 : decode cL_law 260 = .ok (.aload_n 2, 1) := by decide +kernel
theorem dL_law_261 : decode cL_law 261 = .ok (.aload_n 0, 1) := by decide +kernel
theorem dL_law_262 : decode cL_law 262 = .ok (.iload_n 3, 1) := by decide +kernel
theorem dL_law_263 : decode cL_law 263 = .ok (.iconst 1, 1) := by decide +kernel
theorem dL_law_264 : decode cL_law 264 = .ok (.iadd, 1) := by decide +kernel
theorem dL_law_265 : decode cL_law 265 = .ok (.iaload, 1) := by decide +kernel
theorem dL_law_266 : decode cL_law 266 = .ok (.aload_n 0, 1) := by decide +kernel
theorem dL_law_267 : decode cL_law 267 = .ok (.iload_n 3, 1) := by decide +kernel
theorem dL_law_268 : decode cL_law 268 = .ok (.iconst 2, 1) := by decide +kernel
theorem dL_law_269 : decode cL_law 269 = .ok (.iadd, 1) := by decide +kernel
theorem dL_law_270 : decode cL_law 270 = .ok (.iaload, 1) := by decide +kernel
theorem dL_law_271 : decode cL_law 271 = .ok (.aload_n 0, 1) := by decide +kernel
theorem dL_law_272 : decode cL_law 272 = .ok (.iload_n 3, 1) := by decide +kernel
theorem dL_law_273 : decode cL_law 273 = .ok (.iconst 3, 1) := by decide +kernel
theorem dL_law_274 : decode cL_law 274 = .ok (.iadd, 1) := by decide +kernel
theorem dL_law_275 : decode cL_law 275 = .ok (.iaload, 1) := by decide +kernel
theorem dL_law_276 : decode cL_law 276 = .ok (.aload_n 0, 1) := by decide +kernel
theorem dL_law_277 : decode cL_law 277 = .ok (.iload_n 3, 1) := by decide +kernel
theorem dL_law_278 : decode cL_law 278 = .ok (.iconst 4, 1) := by decide +kernel
theorem dL_law_279 : decode cL_law 279 = .ok (.iadd, 1) := by decide +kernel
theorem dL_law_280 : decode cL_law 280 = .ok (.iaload, 1) := by decide +kernel
theorem dL_law_281 : decode cL_law 281 = .ok (.aload_n 0, 1) := by decide +kernel
theorem dL_law_282 : decode cL_law 282 = .ok (.iload_n 3, 1) := by decide +kernel
theorem dL_law_283 : decode cL_law 283 = .ok (.iconst 5, 1) := by decide +kernel
theorem dL_law_284 : decode cL_law 284 = .ok (.iadd, 1) := by decide +kernel
theorem dL_law_285 : decode cL_law 285 = .ok (.iaload, 1) := by decide +kernel
theorem dL_law_286 : decode cL_law 286 = .ok (.invokevirtual 32, 3) := by decide +kernel
theorem dL_law_289 : decode cL_law 289 = .ok (.if_icmp .eq 351, 3) := by decide +kernel
theorem dL_law_292 : decode cL_law 292 = .ok (.iconst 0, 1) := by decide +kernel
theorem dL_law_293 : decode cL_law 293 = .ok (.ireturn, 1) := by decide +kernel
theorem dL_law_294 : decode cL_law 294 = .ok (.aload_n 1, 1) := by decide +kernel
theorem dL_law_295 : decode cL_law 295 = .ok (.aload_n 0, 1) := by decide +kernel
theorem dL_law_296 : decode cL_law 296 = .ok (.iload_n 3, 1) := by decide +kernel
theorem dL_law_297 : decode cL_law 297 = .ok (.iconst 1, 1) := by decide +kernel
theorem dL_law_298 : decode cL_law 298 = .ok (.iadd, 1) := by decide +kernel
theorem dL_law_299 : decode cL_law 299 = .ok (.iaload, 1) := by decide +kernel
theorem dL_law_300 : decode cL_law 300 = .ok (.invokevirtual 33, 3) := by decide +kernel
theorem dL_law_303 : decode cL_law 303 = .ok (.aload_n 2, 1) := by decide +kernel
theorem dL_law_304 : decode cL_law 304 = .ok (.aload_n 0, 1) := by decide +kernel
theorem dL_law_305 : decode cL_law 305 = .ok (.iload_n 3, 1) := by decide +kernel
theorem dL_law_306 : decode cL_law 306 = .ok (.iconst 1, 1) := by decide +kernel
theorem dL_law_307 : decode cL_law 307 = .ok (.iadd, 1) := by decide +kernel
theorem dL_law_308 : decode cL_law 308 = .ok (.iaload, 1) := by decide +kernel
theorem dL_law_309 : decode cL_law 309 = .ok (.invokevirtual 37, 3) := by decide +kernel
theorem dL_law_312 : decode cL_law 312 = .ok (.if_icmp .eq 328, 3) := by decide +kernel
theorem dL_law_315 : decode cL_law 315 = .ok (.iconst 0, 1) := by decide +kernel
theorem dL_law_316 : decode cL_law 316 = .ok (.ireturn, 1) := by decide +kernel
theorem dL_law_317 : decode cL_law 317 = .ok (.aload_n 1, 1) := by decide +kernel
theorem dL_law_318 : decode cL_law 318 = .ok (.aload_n 0, 1) := by decide +kernel
theorem dL_law_319 : decode cL_law 319 = .ok (.iload_n 3, 1) := by decide +kernel
theorem dL_law_320 : decode cL_law 320 = .ok (.iconst 1, 1) := by decide +kernel
theorem dL_law_321 : decode cL_law 321 = .ok (.iadd, 1) := by decide +kernel
theorem dL_law_322 : decode cL_law 322 = .ok (.iaload, 1) := by decide +kernel
theorem dL_law_323 : decode cL_law 323 = .ok (.invokevirtual 38, 3) := by decide +kernel
theorem dL_law_326 : decode cL_law 326 = .ok (.aload_n 2, 1) := by decide +kernel
theorem dL_law_327 : decode cL_law 327 = .ok (.aload_n 0, 1) := by decide +kernel
theorem dL_law_328 : decode cL_law 328 = .ok (.iload_n 3, 1) := by decide +kernel
theorem dL_law_329 : decode cL_law 329 = .ok (.iconst 1, 1) := by decide +kernel
theorem dL_law_330 : decode cL_law 330 = .ok (.iadd, 1) := by decide +kernel
theorem dL_law_331 : decode cL_law 331 = .ok (.iaload, 1) := by decide +kernel
theorem dL_law_332 : decode cL_law 332 = .ok (.invokevirtual 42, 3) := by decide +kernel
theorem dL_law_335 : decode cL_law 335 = .ok (.if_icmp .eq 305, 3) := by decide +kernel
theorem dL_law_338 : decode cL_law 338 = .ok (.iconst 0, 1) := by decide +kernel
theorem dL_law_339 : decode cL_law 339 = .ok (.ireturn, 1) := by decide +kernel
theorem dL_law_340 : decode cL_law 340 = .ok (.aload_n 1, 1) := by decide +kernel
theorem dL_law_341 : decode cL_law 341 = .ok (.aload_n 0, 1) := by decide +kernel
theorem dL_law_342 : decode cL_law 342 = .ok (.iload_n 3, 1) := by decide +kernel
theorem dL_law_343 : decode cL_law 343 = .ok (.iconst 1, 1) := by decide +kernel
theorem dL_law_344 : decode cL_law 344 = .ok (.iadd, 1) := by decide +kernel
theorem dL_law_345 : decode cL_law 345 = .ok (.iaload, 1) := by decide +kernel
theorem dL_law_346 : decode cL_law 346 = .ok (.invokevirtual 43, 3) := by decide +kernel
theorem dL_law_349 : decode cL_law 349 = .ok (.aload_n 2, 1) := by decide +kernel
theorem dL_law_350 : decode cL_law 350 = .ok (.aload_n 0, 1) := by decide +kernel
theorem dL_law_351 : decode cL_law 351 = .ok (.iload_n 3, 1) := by decide +kernel
theorem dL_law_352 : decode cL_law 352 = .ok (.iconst 1, 1) := by decide +kernel
theorem dL_law_353 : decode cL_law 353 = .ok (.iadd, 1) := by decide +kernel
theorem dL_law_354 : decode cL_law 354 = .ok (.iaload, 1) := by decide +kernel
theorem dL_law_355 : decode cL_law 355 = .ok (.invokevirtual 46, 3) := by decide +kernel
theorem dL_law_358 : decode cL_law 358 = .ok (.if_icmp .eq 282, 3) := by decide +kernel
theorem dL_law_361 : decode cL_law 361 = .ok (.iconst 0, 1) := by decide +kernel
theorem dL_law_362 : decode cL_law 362 = .ok (.ireturn, 1) := by decide +kernel
theorem dL_law_363 : decode cL_law 363 = .ok (.aload_n 1, 1) := by decide +kernel
theorem dL_law_364 : decode cL_law 364 = .ok (.invokevirtual 47, 3) := by decide +kernel
theorem dL_law_367 : decode cL_law 367 = .ok (.aload_n 2, 1) := by decide +kernel
theorem dL_law_368 : decode cL_law 368 = .ok (.invokevirtual 51, 3) := by decide +kernel
theorem dL_law_371 : decode cL_law 371 = .ok (.if_icmp .eq 269, 3) := by decide +kernel
theorem dL_law_374 : decode cL_law 374 = .ok (.iconst 0, 1) := by decide +kernel
theorem dL_law_375 : decode cL_law 375 = .ok (.ireturn, 1) := by decide +kernel
theorem dL_law_376 : decode cL_law 376 = .ok (.aload_n 1, 1) := by decide +kernel
theorem dL_law_377 : decode cL_law 377 = .ok (.aload_n 0, 1) := by decide +kernel
theorem dL_law_378 : decode cL_law 378 = .ok (.iload_n 3, 1) := by decide +kernel
theorem dL_law_379 : decode cL_law 379 = .ok (.iconst 1, 1) := by decide +kernel
theorem dL_law_380 : decode cL_law 380 = .ok (.iadd, 1) := by decide +kernel
theorem dL_law_381 : decode cL_law 381 = .ok (.iaload, 1) := by decide +kernel
theorem dL_law_382 : decode cL_law 382 = .ok (.invokevirtual 52, 3) := by decide +kernel
theorem dL_law_385 : decode cL_law 385 = .ok (.aload_n 2, 1) := by decide +kernel
theorem dL_law_386 : decode cL_law 386 = .ok (.aload_n 0, 1) := by decide +kernel
theorem dL_law_387 : decode cL_law 387 = .ok (.iload_n 3, 1) := by decide +kernel
theorem dL_law_388 : decode cL_law 388 = .ok (.iconst 1, 1) := by decide +kernel
theorem dL_law_389 : decode cL_law 389 = .ok (.iadd, 1) := by decide +kernel
theorem dL_law_390 : decode cL_law 390 = .ok (.iaload, 1) := by decide +kernel
theorem dL_law_391 : decode cL_law 391 = .ok (.invokevirtual 55, 3) := by decide +kernel
theorem dL_law_394 : decode cL_law 394 = .ok (.if_icmp .eq 246, 3) := by decide +kernel
theorem dL_law_397 : decode cL_law 397 = .ok (.iconst 0, 1) := by decide +kernel
theorem dL_law_398 : decode cL_law 398 = .ok (.ireturn, 1) := by decide +kernel
theorem dL_law_399 : decode cL_law 399 = .ok (.aload_n 1, 1) := by decide +kernel
theorem dL_law_400 : decode cL_law 400 = .ok (.aload_n 0, 1) := by decide +kernel
theorem dL_law_401 : decode cL_law 401 = .ok (.iload_n 3, 1) := by decide +kernel
theorem dL_law_402 : decode cL_law 402 = .ok (.iconst 1, 1) := by decide +kernel
theorem dL_law_403 : decode cL_law 403 = .ok (.iadd, 1) := by decide +kernel
theorem dL_law_404 : decode cL_law 404 = .ok (.iaload, 1) := by decide +kernel
theorem dL_law_405 : decode cL_law 405 = .ok (.aload_n 0, 1) := by decide +kernel
theorem dL_law_406 : decode cL_law 406 = .ok (.iload_n 3, 1) := by decide +kernel
theorem dL_law_407 : decode cL_law 407 = .ok (.iconst 2, 1) := by decide +kernel
theorem dL_law_408 : decode cL_law 408 = .ok (.iadd, 1) := by decide +kernel
theorem dL_law_409 : decode cL_law 409 = .ok (.iaload, 1) := by decide +kernel
theorem dL_law_410 : decode cL_law 410 = .ok (.aload_n 0, 1) := by decide +kernel
theorem dL_law_411 : decode cL_law 411 = .ok (.iload_n 3, 1) := by decide +kernel
theorem dL_law_412 : decode cL_law 412 = .ok (.iconst 3, 1) := by decide +kernel
theorem dL_law_413 : decode cL_law 413 = .ok (.iadd, 1) := by decide +kernel
theorem dL_law_414 : decode cL_law 414 = .ok (.iaload, 1) := by decide +kernel
theorem dL_law_415 : decode cL_law 415 = .ok (.invokevirtual 56, 3) := by decide +kernel
theorem dL_law_418 : decode cL_law 418 = .ok (.aload_n 2, 1) := by decide +kernel
theorem dL_law_419 : decode cL_law 419 = .ok (.aload_n 0, 1) := by decide +kernel
theorem dL_law_420 : decode cL_law 420 = .ok (.iload_n 3, 1) := by decide +kernel
theorem dL_law_421 : decode cL_law 421 = .ok (.iconst 1, 1) := by decide +kernel
theorem dL_law_422 : decode cL_law 422 = .ok (.iadd, 1) := by decide +kernel
theorem dL_law_423 : decode cL_law 423 = .ok (.iaload, 1) := by decide +kernel
theorem dL_law_424 : decode cL_law 424 = .ok (.aload_n 0, 1) := by decide +kernel
theorem dL_law_425 : decode cL_law 425 = .ok (.iload_n 3, 1) := by decide +kernel
theorem dL_law_426 : decode cL_law 426 = .ok (.iconst 2, 1) := by decide +kernel
theorem dL_law_427 : decode cL_law 427 = .ok (.iadd, 1) := by decide +kernel
theorem dL_law_428 : decode cL_law 428 = .ok (.iaload, 1) := by decide +kernel
theorem dL_law_429 : decode cL_law 429 = .ok (.aload_n 0, 1) := by decide +kernel
theorem dL_law_430 : decode cL_law 430 = .ok (.iload_n 3, 1) := by decide +kernel
theorem dL_law_431 : decode cL_law 431 = .ok (.iconst 3, 1) := by decide +kernel
theorem dL_law_432 : decode cL_law 432 = .ok (.iadd, 1) := by decide +kernel
theorem dL_law_433 : decode cL_law 433 = .ok (.iaload, 1) := by decide +kernel
theorem dL_law_434 : decode cL_law 434 = .ok (.invokevirtual 59, 3) := by decide +kernel
theorem dL_law_437 : decode cL_law 437 = .ok (.if_icmp .eq 203, 3) := by decide +kernel
theorem dL_law_440 : decode cL_law 440 = .ok (.iconst 0, 1) := by decide +kernel
theorem dL_law_441 : decode cL_law 441 = .ok (.ireturn, 1) := by decide +kernel
theorem dL_law_442 : decode cL_law 442 = .ok (.aload_n 1, 1) := by decide +kernel
theorem dL_law_443 : decode cL_law 443 = .ok (.aload_n 0, 1) := by decide +kernel
theorem dL_law_444 : decode cL_law 444 = .ok (.iload_n 3, 1) := by decide +kernel
theorem dL_law_445 : decode cL_law 445 = .ok (.iconst 1, 1) := by decide +kernel
theorem dL_law_446 : decode cL_law 446 = .ok (.iadd, 1) := by decide +kernel
theorem dL_law_447 : decode cL_law 447 = .ok (.iaload, 1) := by decide +kernel
theorem dL_law_448 : decode cL_law 448 = .ok (.aload_n 0, 1) := by decide +kernel
theorem dL_law_449 : decode cL_law 449 = .ok (.iload_n 3, 1) := by decide +kernel
theorem dL_law_450 : decode cL_law 450 = .ok (.iconst 2, 1) := by decide +kernel
theorem dL_law_451 : decode cL_law 451 = .ok (.iadd, 1) := by decide +kernel
theorem dL_law_452 : decode cL_law 452 = .ok (.iaload, 1) := by decide +kernel
theorem dL_law_453 : decode cL_law 453 = .ok (.invokevirtual 60, 3) := by decide +kernel
theorem dL_law_456 : decode cL_law 456 = .ok (.aload_n 2, 1) := by decide +kernel
theorem dL_law_457 : decode cL_law 457 = .ok (.aload_n 0, 1) := by decide +kernel
theorem dL_law_458 : decode cL_law 458 = .ok (.iload_n 3, 1) := by decide +kernel
theorem dL_law_459 : decode cL_law 459 = .ok (.iconst 1, 1) := by decide +kernel
theorem dL_law_460 : decode cL_law 460 = .ok (.iadd, 1) := by decide +kernel
theorem dL_law_461 : decode cL_law 461 = .ok (.iaload, 1) := by decide +kernel
theorem dL_law_462 : decode cL_law 462 = .ok (.aload_n 0, 1) := by decide +kernel
theorem dL_law_463 : decode cL_law 463 = .ok (.iload_n 3, 1) := by decide +kernel
theorem dL_law_464 : decode cL_law 464 = .ok (.iconst 2, 1) := by decide +kernel
theorem dL_law_465 : decode cL_law 465 = .ok (.iadd, 1) := by decide +kernel
theorem dL_law_466 : decode cL_law 466 = .ok (.iaload, 1) := by decide +kernel
theorem dL_law_467 : decode cL_law 467 = .ok (.invokevirtual 64, 3) := by decide +kernel
theorem dL_law_470 : decode cL_law 470 = .ok (.if_icmp .eq 170, 3) := by decide +kernel
theorem dL_law_473 : decode cL_law 473 = .ok (.iconst 0, 1) := by decide +kernel
theorem dL_law_474 : decode cL_law 474 = .ok (.ireturn, 1) := by decide +kernel
theorem dL_law_475 : decode cL_law 475 = .ok (.aload_n 1, 1) := by decide +kernel
theorem dL_law_476 : decode cL_law 476 = .ok (.aload_n 0, 1) := by decide +kernel
theorem dL_law_477 : decode cL_law 477 = .ok (.iload_n 3, 1) := by decide +kernel
theorem dL_law_478 : decode cL_law 478 = .ok (.iconst 1, 1) := by decide +kernel
theorem dL_law_479 : decode cL_law 479 = .ok (.iadd, 1) := by decide +kernel
theorem dL_law_480 : decode cL_law 480 = .ok (.iaload, 1) := by decide +kernel
theorem dL_law_481 : decode cL_law 481 = .ok (.aload_n 0, 1) := by decide +kernel
theorem dL_law_482 : decode cL_law 482 = .ok (.iload_n 3, 1) := by decide +kernel
theorem dL_law_483 : decode cL_law 483 = .ok (.iconst 2, 1) := by decide +kernel
theorem dL_law_484 : decode cL_law 484 = .ok (.iadd, 1) := by decide +kernel
theorem dL_law_485 : decode cL_law 485 = .ok (.iaload, 1) := by decide +kernel
theorem dL_law_486 : decode cL_law 486 = .ok (.invokevirtual 65, 3) := by decide +kernel
theorem dL_law_489 : decode cL_law 489 = .ok (.aload_n 2, 1) := by decide +kernel
theorem dL_law_490 : decode cL_law 490 = .ok (.aload_n 0, 1) := by decide +kernel
theorem dL_law_491 : decode cL_law 491 = .ok (.iload_n 3, 1) := by decide +kernel
theorem dL_law_492 : decode cL_law 492 = .ok (.iconst 1, 1) := by decide +kernel
theorem dL_law_493 : decode cL_law 493 = .ok (.iadd, 1) := by decide +kernel
theorem dL_law_494 : decode cL_law 494 = .ok (.iaload, 1) := by decide +kernel
theorem dL_law_495 : decode cL_law 495 = .ok (.aload_n 0, 1) := by decide +kernel
theorem dL_law_496 : decode cL_law 496 = .ok (.iload_n 3, 1) := by decide +kernel
theorem dL_law_497 : decode cL_law 497 = .ok (.iconst 2, 1) := by decide +kernel
theorem dL_law_498 : decode cL_law 498 = .ok (.iadd, 1) := by decide +kernel
theorem dL_law_499 : decode cL_law 499 = .ok (.iaload, 1) := by decide +kernel
theorem dL_law_500 : decode cL_law 500 = .ok (.invokevirtual 68, 3) := by decide +kernel
theorem dL_law_503 : decode cL_law 503 = .ok (.if_icmp .eq 137, 3) := by decide +kernel
theorem dL_law_506 : decode cL_law 506 = .ok (.iconst 0, 1) := by decide +kernel
theorem dL_law_507 : decode cL_law 507 = .ok (.ireturn, 1) := by decide +kernel
theorem dL_law_508 : decode cL_law 508 = .ok (.aload_n 1, 1) := by decide +kernel
theorem dL_law_509 : decode cL_law 509 = .ok (.aload_n 0, 1) := by decide +kernel
theorem dL_law_510 : decode cL_law 510 = .ok (.iload_n 3, 1) := by decide +kernel
theorem dL_law_511 : decode cL_law 511 = .ok (.iconst 1, 1) := by decide +kernel
theorem dL_law_512 : decode cL_law 512 = .ok (.iadd, 1) := by decide +kernel
theorem dL_law_513 : decode cL_law 513 = .ok (.iaload, 1) := by decide +kernel
theorem dL_law_514 : decode cL_law 514 = .ok (.aload_n 0, 1) := by decide +kernel
theorem dL_law_515 : decode cL_law 515 = .ok (.iload_n 3, 1) := by decide +kernel
theorem dL_law_516 : decode cL_law 516 = .ok (.iconst 2, 1) := by decide +kernel
theorem dL_law_517 : decode cL_law 517 = .ok (.iadd, 1) := by decide +kernel
theorem dL_law_518 : decode cL_law 518 = .ok (.iaload, 1) := by decide +kernel
theorem dL_law_519 : decode cL_law 519 = .ok (.aload_n 0, 1) := by decide +kernel
theorem dL_law_520 : decode cL_law 520 = .ok (.iload_n 3, 1) := by decide +kernel
theorem dL_law_521 : decode cL_law 521 = .ok (.iconst 3, 1) := by decide +kernel
theorem dL_law_522 : decode cL_law 522 = .ok (.iadd, 1) := by decide +kernel
theorem dL_law_523 : decode cL_law 523 = .ok (.iaload, 1) := by decide +kernel
theorem dL_law_524 : decode cL_law 524 = .ok (.invokevirtual 69, 3) := by decide +kernel
theorem dL_law_527 : decode cL_law 527 = .ok (.aload_n 2, 1) := by decide +kernel
theorem dL_law_528 : decode cL_law 528 = .ok (.aload_n 0, 1) := by decide +kernel
theorem dL_law_529 : decode cL_law 529 = .ok (.iload_n 3, 1) := by decide +kernel
theorem dL_law_530 : decode cL_law 530 = .ok (.iconst 1, 1) := by decide +kernel
theorem dL_law_531 : decode cL_law 531 = .ok (.iadd, 1) := by decide +kernel
theorem dL_law_532 : decode cL_law 532 = .ok (.iaload, 1) := by decide +kernel
theorem dL_law_533 : decode cL_law 533 = .ok (.aload_n 0, 1) := by decide +kernel
theorem dL_law_534 : decode cL_law 534 = .ok (.iload_n 3, 1) := by decide +kernel
theorem dL_law_535 : decode cL_law 535 = .ok (.iconst 2, 1) := by decide +kernel
theorem dL_law_536 : decode cL_law 536 = .ok (.iadd, 1) := by decide +kernel
theorem dL_law_537 : decode cL_law 537 = .ok (.iaload, 1) := by decide +kernel
theorem dL_law_538 : decode cL_law 538 = .ok (.aload_n 0, 1) := by decide +kernel
theorem dL_law_539 : decode cL_law 539 = .ok (.iload_n 3, 1) := by decide +kernel
theorem dL_law_540 : decode cL_law 540 = .ok (.iconst 3, 1) := by decide +kernel
theorem dL_law_541 : decode cL_law 541 = .ok (.iadd, 1) := by decide +kernel
theorem dL_law_542 : decode cL_law 542 = .ok (.iaload, 1) := by decide +kernel
theorem dL_law_543 : decode cL_law 543 = .ok (.invokevirtual 72, 3) := by decide +kernel
theorem dL_law_546 : decode cL_law 546 = .ok (.if_icmp .eq 94, 3) := by decide +kernel
theorem dL_law_549 : decode cL_law 549 = .ok (.iconst 0, 1) := by decide +kernel
theorem dL_law_550 : decode cL_law 550 = .ok (.ireturn, 1) := by decide +kernel
theorem dL_law_551 : decode cL_law 551 = .ok (.aload_n 1, 1) := by decide +kernel
theorem dL_law_552 : decode cL_law 552 = .ok (.aload_n 0, 1) := by decide +kernel
theorem dL_law_553 : decode cL_law 553 = .ok (.iload_n 3, 1) := by decide +kernel
theorem dL_law_554 : decode cL_law 554 = .ok (.iconst 1, 1) := by decide +kernel
theorem dL_law_555 : decode cL_law 555 = .ok (.iadd, 1) := by decide +kernel
theorem dL_law_556 : decode cL_law 556 = .ok (.iaload, 1) := by decide +kernel
theorem dL_law_557 : decode cL_law 557 = .ok (.invokevirtual 73, 3) := by decide +kernel
theorem dL_law_560 : decode cL_law 560 = .ok (.aload_n 2, 1) := by decide +kernel
theorem dL_law_561 : decode cL_law 561 = .ok (.aload_n 0, 1) := by decide +kernel
theorem dL_law_562 : decode cL_law 562 = .ok (.iload_n 3, 1) := by decide +kernel
theorem dL_law_563 : decode cL_law 563 = .ok (.iconst 1, 1) := by decide +kernel
theorem dL_law_564 : decode cL_law 564 = .ok (.iadd, 1) := by decide +kernel
theorem dL_law_565 : decode cL_law 565 = .ok (.iaload, 1) := by decide +kernel
theorem dL_law_566 : decode cL_law 566 = .ok (.invokevirtual 76, 3) := by decide +kernel
theorem dL_law_569 : decode cL_law 569 = .ok (.if_icmp .eq 71, 3) := by decide +kernel
theorem dL_law_572 : decode cL_law 572 = .ok (.iconst 0, 1) := by decide +kernel
theorem dL_law_573 : decode cL_law 573 = .ok (.ireturn, 1) := by decide +kernel
theorem dL_law_574 : decode cL_law 574 = .ok (.aload_n 1, 1) := by decide +kernel
theorem dL_law_575 : decode cL_law 575 = .ok (.aload_n 0, 1) := by decide +kernel
theorem dL_law_576 : decode cL_law 576 = .ok (.iload_n 3, 1) := by decide +kernel
theorem dL_law_577 : decode cL_law 577 = .ok (.iconst 1, 1) := by decide +kernel
theorem dL_law_578 : decode cL_law 578 = .ok (.iadd, 1) := by decide +kernel
theorem dL_law_579 : decode cL_law 579 = .ok (.iaload, 1) := by decide +kernel
theorem dL_law_580 : decode cL_law 580 = .ok (.aload_n 0, 1) := by decide +kernel
theorem dL_law_581 : decode cL_law 581 = .ok (.iload_n 3, 1) := by decide +kernel
theorem dL_law_582 : decode cL_law 582 = .ok (.iconst 2, 1) := by decide +kernel
theorem dL_law_583 : decode cL_law 583 = .ok (.iadd, 1) := by decide +kernel
theorem dL_law_584 : decode cL_law 584 = .ok (.iaload, 1) := by decide +kernel
theorem dL_law_585 : decode cL_law 585 = .ok (.invokevirtual 77, 3) := by decide +kernel
theorem dL_law_588 : decode cL_law 588 = .ok (.aload_n 2, 1) := by decide +kernel
theorem dL_law_589 : decode cL_law 589 = .ok (.aload_n 0, 1) := by decide +kernel
theorem dL_law_590 : decode cL_law 590 = .ok (.iload_n 3, 1) := by decide +kernel
theorem dL_law_591 : decode cL_law 591 = .ok (.iconst 1, 1) := by decide +kernel
theorem dL_law_592 : decode cL_law 592 = .ok (.iadd, 1) := by decide +kernel
theorem dL_law_593 : decode cL_law 593 = .ok (.iaload, 1) := by decide +kernel
theorem dL_law_594 : decode cL_law 594 = .ok (.aload_n 0, 1) := by decide +kernel
theorem dL_law_595 : decode cL_law 595 = .ok (.iload_n 3, 1) := by decide +kernel
theorem dL_law_596 : decode cL_law 596 = .ok (.iconst 2, 1) := by decide +kernel
theorem dL_law_597 : decode cL_law 597 = .ok (.iadd, 1) := by decide +kernel
theorem dL_law_598 : decode cL_law 598 = .ok (.iaload, 1) := by decide +kernel
theorem dL_law_599 : decode cL_law 599 = .ok (.invokevirtual 80, 3) := by decide +kernel
theorem dL_law_602 : decode cL_law 602 = .ok (.if_icmp .eq 38, 3) := by decide +kernel
theorem dL_law_605 : decode cL_law 605 = .ok (.iconst 0, 1) := by decide +kernel
theorem dL_law_606 : decode cL_law 606 = .ok (.ireturn, 1) := by decide +kernel
theorem dL_law_607 : decode cL_law 607 = .ok (.aload_n 1, 1) := by decide +kernel
theorem dL_law_608 : decode cL_law 608 = .ok (.aload_n 0, 1) := by decide +kernel
theorem dL_law_609 : decode cL_law 609 = .ok (.iload_n 3, 1) := by decide +kernel
theorem dL_law_610 : decode cL_law 610 = .ok (.iconst 1, 1) := by decide +kernel
theorem dL_law_611 : decode cL_law 611 = .ok (.iadd, 1) := by decide +kernel
theorem dL_law_612 : decode cL_law 612 = .ok (.iaload, 1) := by decide +kernel
theorem dL_law_613 : decode cL_law 613 = .ok (.aload_n 0, 1) := by decide +kernel
theorem dL_law_614 : decode cL_law 614 = .ok (.iload_n 3, 1) := by decide +kernel
theorem dL_law_615 : decode cL_law 615 = .ok (.iconst 2, 1) := by decide +kernel
theorem dL_law_616 : decode cL_law 616 = .ok (.iadd, 1) := by decide +kernel
theorem dL_law_617 : decode cL_law 617 = .ok (.iaload, 1) := by decide +kernel
theorem dL_law_618 : decode cL_law 618 = .ok (.invokevirtual 81, 3) := by decide +kernel
theorem dL_law_621 : decode cL_law 621 = .ok (.aload_n 2, 1) := by decide +kernel
theorem dL_law_622 : decode cL_law 622 = .ok (.aload_n 0, 1) := by decide +kernel
theorem dL_law_623 : decode cL_law 623 = .ok (.iload_n 3, 1) := by decide +kernel
theorem dL_law_624 : decode cL_law 624 = .ok (.iconst 1, 1) := by decide +kernel
theorem dL_law_625 : decode cL_law 625 = .ok (.iadd, 1) := by decide +kernel
theorem dL_law_626 : decode cL_law 626 = .ok (.iaload, 1) := by decide +kernel
theorem dL_law_627 : decode cL_law 627 = .ok (.aload_n 0, 1) := by decide +kernel
theorem dL_law_628 : decode cL_law 628 = .ok (.iload_n 3, 1) := by decide +kernel
theorem dL_law_629 : decode cL_law 629 = .ok (.iconst 2, 1) := by decide +kernel
theorem dL_law_630 : decode cL_law 630 = .ok (.iadd, 1) := by decide +kernel
theorem dL_law_631 : decode cL_law 631 = .ok (.iaload, 1) := by decide +kernel
theorem dL_law_632 : decode cL_law 632 = .ok (.invokevirtual 84, 3) := by decide +kernel
theorem dL_law_635 : decode cL_law 635 = .ok (.if_icmp .eq 5, 3) := by decide +kernel
theorem dL_law_638 : decode cL_law 638 = .ok (.iconst 0, 1) := by decide +kernel
theorem dL_law_639 : decode cL_law 639 = .ok (.ireturn, 1) := by decide +kernel
theorem dL_law_640 : decode cL_law 640 = .ok (.iinc 3 6, 3) := by decide +kernel
theorem dL_law_643 : decode cL_law 643 = .ok (.goto (-625), 3) := by decide +kernel
theorem dL_law_646 : decode cL_law 646 = .ok (.iconst 1, 1) := by decide +kernel
theorem dL_law_647 : decode cL_law 647 = .ok (.ireturn, 1) := by decide +kernel
theorem dX0_init_0 : decode cX0_init 0 = .ok (.aload_n 0, 1) := by decide +kernel
theorem dX0_init_1 : decode cX0_init 1 = .ok (.invokespecial 3, 3) := by decide +kernel
theorem dX0_init_4 : decode cX0_init 4 = .ok (.aload_n 0, 1) := by decide +kernel
theorem dX0_init_5 : decode cX0_init 5 = .ok (.iconst 5, 1) := by decide +kernel
theorem dX0_init_6 : decode cX0_init 6 = .ok (.newarray .int, 2) := by decide +kernel
theorem dX0_init_8 : decode cX0_init 8 = .ok (.putfield 9, 3) := by decide +kernel
theorem dX0_init_11 : decode cX0_init 11 = .ok (.aload_n 0, 1) := by decide +kernel
theorem dX0_init_12 : decode cX0_init 12 = .ok (.bipush 32, 2) := by decide +kernel
theorem dX0_init_14 : decode cX0_init 14 = .ok (.newarray .int, 2) := by decide +kernel
theorem dX0_init_16 : decode cX0_init 16 = .ok (.putfield 15, 3) := by decide +kernel
theorem dX0_init_19 : decode cX0_init 19 = .ok (.return_, 1) := by decide +kernel
theorem dX0_check_0 : decode cX0_check 0 = .ok (.aload_n 1, 1) := by decide +kernel
theorem dX0_check_1 : decode cX0_check 1 = .ok (.iload_n 2, 1) := by decide +kernel
theorem dX0_check_2 : decode cX0_check 2 = .ok (.aaload, 1) := by decide +kernel
theorem dX0_check_3 : decode cX0_check 3 = .ok (.astore 4, 2) := by decide +kernel
theorem dX0_check_5 : decode cX0_check 5 = .ok (.aload 4, 2) := by decide +kernel
theorem dX0_check_7 : decode cX0_check 7 = .ok (.iconst 1, 1) := by decide +kernel
theorem dX0_check_8 : decode cX0_check 8 = .ok (.invokevirtual 18, 3) := by decide +kernel
theorem dX0_check_11 : decode cX0_check 11 = .ok (.istore 5, 2) := by decide +kernel
theorem dX0_check_13 : decode cX0_check 13 = .ok (.aload 4, 2) := by decide +kernel
theorem dX0_check_15 : decode cX0_check 15 = .ok (.iconst 2, 1) := by decide +kernel
theorem dX0_check_16 : decode cX0_check 16 = .ok (.invokevirtual 18, 3) := by decide +kernel
theorem dX0_check_19 : decode cX0_check 19 = .ok (.istore 6, 2) := by decide +kernel
theorem dX0_check_21 : decode cX0_check 21 = .ok (.aload 4, 2) := by decide +kernel
theorem dX0_check_23 : decode cX0_check 23 = .ok (.invokevirtual 24, 3) := by decide +kernel
theorem dX0_check_26 : decode cX0_check 26 = .ok (.istore 7, 2) := by decide +kernel
theorem dX0_check_28 : decode cX0_check 28 = .ok (.iconst 1, 1) := by decide +kernel
theorem dX0_check_29 : decode cX0_check 29 = .ok (.iload_n 2, 1) := by decide +kernel
theorem dX0_check_30 : decode cX0_check 30 = .ok (.ishl, 1) := by decide +kernel
theorem dX0_check_31 : decode cX0_check 31 = .ok (.istore 8, 2) := by decide +kernel
theorem dX0_check_33 : decode cX0_check 33 = .ok (.iconst 0, 1) := by decide +kernel
theorem dX0_check_34 : decode cX0_check 34 = .ok (.istore 9, 2) := by decide +kernel
theorem dX0_check_36 : decode cX0_check 36 = .ok (.iload 9, 2) := by decide +kernel
theorem dX0_check_38 : decode cX0_check 38 = .ok (.bipush 6, 2) := by decide +kernel
theorem dX0_check_40 : decode cX0_check 40 = .ok (.if_icmp .ge 53, 3) := by decide +kernel
theorem dX0_check_43 : decode cX0_check 43 = .ok (.aload_n 1, 1) := by decide +kernel
theorem dX0_check_44 : decode cX0_check 44 = .ok (.iload 9, 2) := by decide +kernel
theorem dX0_check_46 : decode cX0_check 46 = .ok (.aaload, 1) := by decide +kernel
theorem dX0_check_47 : decode cX0_check 47 = .ok (.iconst 1, 1) := by decide +kernel
theorem dX0_check_48 : decode cX0_check 48 = .ok (.invokevirtual 18, 3) := by decide +kernel
theorem dX0_check_51 : decode cX0_check 51 = .ok (.istore 10, 2) := by decide +kernel
theorem dX0_check_53 : decode cX0_check 53 = .ok (.iload 7, 2) := by decide +kernel
theorem dX0_check_55 : decode cX0_check 55 = .ok (.iload 9, 2) := by decide +kernel
theorem dX0_check_57 : decode cX0_check 57 = .ok (.invokestatic 28, 3) := by decide +kernel
theorem dX0_check_60 : decode cX0_check 60 = .ok (.ifCond .eq 10, 3) := by decide +kernel
theorem dX0_check_63 : decode cX0_check 63 = .ok (.iload 5, 2) := by decide +kernel
theorem dX0_check_65 : decode cX0_check 65 = .ok (.iload 10, 2) := by decide +kernel
theorem dX0_check_67 : decode cX0_check 67 = .ok (.ior, 1) := by decide +kernel
theorem dX0_check_68 : decode cX0_check 68 = .ok (.istore 5, 2) := by decide +kernel
theorem dX0_check_70 : decode cX0_check 70 = .ok (.iload 10, 2) := by decide +kernel
theorem dX0_check_72 : decode cX0_check 72 = .ok (.iload 6, 2) := by decide +kernel
theorem dX0_check_74 : decode cX0_check 74 = .ok (.iand, 1) := by decide +kernel
theorem dX0_check_75 : decode cX0_check 75 = .ok (.ifCond .ne 12, 3) := by decide +kernel
theorem dX0_check_78 : decode cX0_check 78 = .ok (.iload 8, 2) := by decide +kernel
theorem dX0_check_80 : decode cX0_check 80 = .ok (.iconst 1, 1) := by decide +kernel
theorem dX0_check_81 : decode cX0_check 81 = .ok (.iload 9, 2) := by decide +kernel
theorem dX0_check_83 : decode cX0_check 83 = .ok (.ishl, 1) := by decide +kernel
theorem dX0_check_84 : decode cX0_check 84 = .ok (.ior, 1) := by decide +kernel
theorem dX0_check_85 : decode cX0_check 85 = .ok (.istore 8, 2) := by decide +kernel
theorem dX0_check_87 : decode cX0_check 87 = .ok (.iinc 9 1, 3) := by decide +kernel
theorem dX0_check_90 : decode cX0_check 90 = .ok (.goto (-54), 3) := by decide +kernel
theorem dX0_check_93 : decode cX0_check 93 = .ok (.aload_n 0, 1) := by decide +kernel
theorem dX0_check_94 : decode cX0_check 94 = .ok (.getfield 9, 3) := by decide +kernel
theorem dX0_check_97 : decode cX0_check 97 = .ok (.iconst 0, 1) := by decide +kernel
theorem dX0_check_98 : decode cX0_check 98 = .ok (.aload 4, 2) := by decide +kernel
theorem dX0_check_100 : decode cX0_check 100 = .ok (.iconst 2, 1) := by decide +kernel
theorem dX0_check_101 : decode cX0_check 101 = .ok (.iload 5, 2) := by decide +kernel
theorem dX0_check_103 : decode cX0_check 103 = .ok (.iconst (-1), 1) := by decide +kernel
theorem dX0_check_104 : decode cX0_check 104 = .ok (.ixor, 1) := by decide +kernel
theorem dX0_check_105 : decode cX0_check 105 = .ok (.invokestatic 32, 3) := by decide +kernel
theorem dX0_check_108 : decode cX0_check 108 = .ok (.iastore, 1) := by decide +kernel
theorem dX0_check_109 : decode cX0_check 109 = .ok (.aload_n 0, 1) := by decide +kernel
theorem dX0_check_110 : decode cX0_check 110 = .ok (.getfield 9, 3) := by decide +kernel
theorem dX0_check_113 : decode cX0_check 113 = .ok (.iconst 1, 1) := by decide +kernel
theorem dX0_check_114 : decode cX0_check 114 = .ok (.aload 4, 2) := by decide +kernel
theorem dX0_check_116 : decode cX0_check 116 = .ok (.invokestatic 36, 3) := by decide +kernel
theorem dX0_check_119 : decode cX0_check 119 = .ok (.iastore, 1) := by decide +kernel
theorem dX0_check_120 : decode cX0_check 120 = .ok (.aload_n 0, 1) := by decide +kernel
theorem dX0_check_121 : decode cX0_check 121 = .ok (.getfield 9, 3) := by decide +kernel
theorem dX0_check_124 : decode cX0_check 124 = .ok (.iconst 2, 1) := by decide +kernel
theorem dX0_check_125 : decode cX0_check 125 = .ok (.aload_n 0, 1) := by decide +kernel
theorem dX0_check_126 : decode cX0_check 126 = .ok (.aload 4, 2) := by decide +kernel
theorem dX0_check_128 : decode cX0_check 128 = .ok (.invokevirtual 40, 3) := by decide +kernel
theorem dX0_check_131 : decode cX0_check 131 = .ok (.iastore, 1) := by decide +kernel
theorem dX0_check_132 : decode cX0_check 132 = .ok (.aload_n 0, 1) := by decide +kernel
theorem dX0_check_133 : decode cX0_check 133 = .ok (.getfield 9, 3) := by decide +kernel
theorem dX0_check_136 : decode cX0_check 136 = .ok (.iconst 3, 1) := by decide +kernel
theorem dX0_check_137 : decode cX0_check 137 = .ok (.aload 4, 2) := by decide +kernel
theorem dX0_check_139 : decode cX0_check 139 = .ok (.iconst 0, 1) := by decide +kernel
theorem dX0_check_140 : decode cX0_check 140 = .ok (.iload_n 3, 1) := by decide +kernel
theorem dX0_check_141 : decode cX0_check 141 = .ok (.invokestatic 32, 3) := by decide +kernel
theorem dX0_check_144 : decode cX0_check 144 = .ok (.iastore, 1) := by decide +kernel
theorem dX0_check_145 : decode cX0_check 145 = .ok (.aload_n 0, 1) := by decide +kernel
theorem dX0_check_146 : decode cX0_check 146 = .ok (.getfield 9, 3) := by decide +kernel
theorem dX0_check_149 : decode cX0_check 149 = .ok (.iconst 4, 1) := by decide +kernel
theorem dX0_check_150 : decode cX0_check 150 = .ok (.aload 4, 2) := by decide +kernel
theorem dX0_check_152 : decode cX0_check 152 = .ok (.iload 8, 2) := by decide +kernel
theorem dX0_check_154 : decode cX0_check 154 = .ok (.invokestatic 43, 3) := by decide +kernel
theorem dX0_check_157 : decode cX0_check 157 = .ok (.iastore, 1) := by decide +kernel
theorem dX0_check_158 : decode cX0_check 158 = .ok (.return_, 1) := by decide +kernel
theorem dX0_linesOf_0 : decode cX0_linesOf 0 = .ok (.aload_n 0, 1) := by decide +kernel
theorem dX0_linesOf_1 : decode cX0_linesOf 1 = .ok (.getfield 9, 3) := by decide +kernel
theorem dX0_linesOf_4 : decode cX0_linesOf 4 = .ok (.iload_n 1, 1) := by decide +kernel
theorem dX0_linesOf_5 : decode cX0_linesOf 5 = .ok (.iaload, 1) := by decide +kernel
theorem dX0_linesOf_6 : decode cX0_linesOf 6 = .ok (.ireturn, 1) := by decide +kernel
theorem dX0_linesWith_0 : decode cX0_linesWith 0 = .ok (.iconst 0, 1) := by decide +kernel
theorem dX0_linesWith_1 : decode cX0_linesWith 1 = .ok (.istore_n 3, 1) := by decide +kernel
theorem dX0_linesWith_2 : decode cX0_linesWith 2 = .ok (.iconst 0, 1) := by decide +kernel
theorem dX0_linesWith_3 : decode cX0_linesWith 3 = .ok (.istore 4, 2) := by decide +kernel
theorem dX0_linesWith_5 : decode cX0_linesWith 5 = .ok (.iload 4, 2) := by decide +kernel
theorem dX0_linesWith_7 : decode cX0_linesWith 7 = .ok (.aload_n 0, 1) := by decide +kernel
theorem dX0_linesWith_8 : decode cX0_linesWith 8 = .ok (.invokevirtual 47, 3) := by decide +kernel
theorem dX0_linesWith_11 : decode cX0_linesWith 11 = .ok (.if_icmp .ge 39, 3) := by decide +kernel
theorem dX0_linesWith_14 : decode cX0_linesWith 14 = .ok (.aload_n 0, 1) := by decide +kernel
theorem dX0_linesWith_15 : decode cX0_linesWith 15 = .ok (.iload 4, 2) := by decide +kernel
theorem dX0_linesWith_17 : decode cX0_linesWith 17 = .ok (.invokevirtual 50, 3) := by decide +kernel
theorem dX0_linesWith_20 : decode cX0_linesWith 20 = .ok (.iload_n 1, 1) := by decide +kernel
theorem dX0_linesWith_21 : decode cX0_linesWith 21 = .ok (.if_icmp .ne 23, 3) := by decide +kernel
theorem dX0_linesWith_24 : decode cX0_linesWith 24 = .ok (.iload_n 2, 1) := by decide +kernel
theorem dX0_linesWith_25 : decode cX0_linesWith 25 = .ok (.aload_n 0, 1) := by decide +kernel
theorem dX0_linesWith_26 : decode cX0_linesWith 26 = .ok (.iload 4, 2) := by decide +kernel
theorem dX0_linesWith_28 : decode cX0_linesWith 28 = .ok (.invokevirtual 53, 3) := by decide +kernel
theorem dX0_linesWith_31 : decode cX0_linesWith 31 = .ok (.invokestatic 28, 3) := by decide +kernel
theorem dX0_linesWith_34 : decode cX0_linesWith 34 = .ok (.ifCond .eq 10, 3) := by decide +kernel
theorem dX0_linesWith_37 : decode cX0_linesWith 37 = .ok (.iload_n 3, 1) := by decide +kernel
theorem dX0_linesWith_38 : decode cX0_linesWith 38 = .ok (.iconst 1, 1) := by decide +kernel
theorem dX0_linesWith_39 : decode cX0_linesWith 39 = .ok (.iload 4, 2) := by decide +kernel
theorem dX0_linesWith_41 : decode cX0_linesWith 41 = .ok (.ishl, 1) := by decide +kernel
theorem dX0_linesWith_42 : decode cX0_linesWith 42 = .ok (.ior, 1) := by decide +kernel
theorem dX0_linesWith_43 : decode cX0_linesWith 43 = .ok (.istore_n 3, 1) := by decide +kernel
theorem dX0_linesWith_44 : decode cX0_linesWith 44 = .ok (.iinc 4 1, 3) := by decide +kernel
theorem dX0_linesWith_47 : decode cX0_linesWith 47 = .ok (.goto (-42), 3) := by decide +kernel
theorem dX0_linesWith_50 : decode cX0_linesWith 50 = .ok (.iload_n 3, 1) := by decide +kernel
theorem dX0_linesWith_51 : decode cX0_linesWith 51 = .ok (.ireturn, 1) := by decide +kernel
theorem dX0_repeatedDefs_0 : decode cX0_repeatedDefs 0 = .ok (.iconst 0, 1) := by decide +kernel
theorem dX0_repeatedDefs_1 : decode cX0_repeatedDefs 1 = .ok (.istore_n 1, 1) := by decide +kernel
theorem dX0_repeatedDefs_2 : decode cX0_repeatedDefs 2 = .ok (.iconst 0, 1) := by decide +kernel
theorem dX0_repeatedDefs_3 : decode cX0_repeatedDefs 3 = .ok (.istore_n 2, 1) := by decide +kernel
theorem dX0_repeatedDefs_4 : decode cX0_repeatedDefs 4 = .ok (.iconst 0, 1) := by decide +kernel
theorem dX0_repeatedDefs_5 : decode cX0_repeatedDefs 5 = .ok (.istore_n 3, 1) := by decide +kernel
theorem dX0_repeatedDefs_6 : decode cX0_repeatedDefs 6 = .ok (.iload_n 3, 1) := by decide +kernel
theorem dX0_repeatedDefs_7 : decode cX0_repeatedDefs 7 = .ok (.aload_n 0, 1) := by decide +kernel
theorem dX0_repeatedDefs_8 : decode cX0_repeatedDefs 8 = .ok (.invokevirtual 47, 3) := by decide +kernel
theorem dX0_repeatedDefs_11 : decode cX0_repeatedDefs 11 = .ok (.if_icmp .ge 47, 3) := by decide +kernel
theorem dX0_repeatedDefs_14 : decode cX0_repeatedDefs 14 = .ok (.aload_n 0, 1) := by decide +kernel
theorem dX0_repeatedDefs_15 : decode cX0_repeatedDefs 15 = .ok (.iload_n 3, 1) := by decide +kernel
theorem dX0_repeatedDefs_16 : decode cX0_repeatedDefs 16 = .ok (.invokevirtual 50, 3) := by decide +kernel
theorem dX0_repeatedDefs_19 : decode cX0_repeatedDefs 19 = .ok (.iconst 1, 1) := by decide +kernel
theorem dX0_repeatedDefs_20 : decode cX0_repeatedDefs 20 = .ok (.if_icmp .ne 32, 3) := by decide +kernel
theorem dX0_repeatedDefs_23 : decode cX0_repeatedDefs 23 = .ok (.aload_n 0, 1) := by decide +kernel
theorem dX0_repeatedDefs_24 : decode cX0_repeatedDefs 24 = .ok (.iload_n 3, 1) := by decide +kernel
theorem dX0_repeatedDefs_25 : decode cX0_repeatedDefs 25 = .ok (.invokevirtual 53, 3) := by decide +kernel
theorem dX0_repeatedDefs_28 : decode cX0_repeatedDefs 28 = .ok (.istore 4, 2) := by decide +kernel
theorem dX0_repeatedDefs_30 : decode cX0_repeatedDefs 30 = .ok (.iload_n 2, 1) := by decide +kernel
theorem dX0_repeatedDefs_31 : decode cX0_repeatedDefs 31 = .ok (.iload 4, 2) := by decide +kernel
theorem dX0_repeatedDefs_33 : decode cX0_repeatedDefs 33 = .ok (.invokestatic 28, 3) := by decide +kernel
theorem dX0_repeatedDefs_36 : decode cX0_repeatedDefs 36 = .ok (.ifCond .eq 9, 3) := by decide +kernel
theorem dX0_repeatedDefs_39 : decode cX0_repeatedDefs 39 = .ok (.iload_n 1, 1) := by decide +kernel
theorem dX0_repeatedDefs_40 : decode cX0_repeatedDefs 40 = .ok (.iconst 1, 1) := by decide +kernel
theorem dX0_repeatedDefs_41 : decode cX0_repeatedDefs 41 = .ok (.iload_n 3, 1) := by decide +kernel
theorem dX0_repeatedDefs_42 : decode cX0_repeatedDefs 42 = .ok (.ishl, 1) := by decide +kernel
theorem dX0_repeatedDefs_43 : decode cX0_repeatedDefs 43 = .ok (.ior, 1) := by decide +kernel
theorem dX0_repeatedDefs_44 : decode cX0_repeatedDefs 44 = .ok (.istore_n 1, 1) := by decide +kernel
theorem dX0_repeatedDefs_45 : decode cX0_repeatedDefs 45 = .ok (.iload_n 2, 1) := by decide +kernel
theorem dX0_repeatedDefs_46 : decode cX0_repeatedDefs 46 = .ok (.iconst 1, 1) := by decide +kernel
theorem dX0_repeatedDefs_47 : decode cX0_repeatedDefs 47 = .ok (.iload 4, 2) := by decide +kernel
theorem dX0_repeatedDefs_49 : decode cX0_repeatedDefs 49 = .ok (.ishl, 1) := by decide +kernel
theorem dX0_repeatedDefs_50 : decode cX0_repeatedDefs 50 = .ok (.ior, 1) := by decide +kernel
theorem dX0_repeatedDefs_51 : decode cX0_repeatedDefs 51 = .ok (.istore_n 2, 1) := by decide +kernel
theorem dX0_repeatedDefs_52 : decode cX0_repeatedDefs 52 = .ok (.iinc 3 1, 3) := by decide +kernel
theorem dX0_repeatedDefs_55 : decode cX0_repeatedDefs 55 = .ok (.goto (-49), 3) := by decide +kernel
theorem dX0_repeatedDefs_58 : decode cX0_repeatedDefs 58 = .ok (.iload_n 1, 1) := by decide +kernel
theorem dX0_repeatedDefs_59 : decode cX0_repeatedDefs 59 = .ok (.ireturn, 1) := by decide +kernel
theorem dX0_unpaired_0 : decode cX0_unpaired 0 = .ok (.iconst 0, 1) := by decide +kernel
theorem dX0_unpaired_1 : decode cX0_unpaired 1 = .ok (.istore_n 2, 1) := by decide +kernel
theorem dX0_unpaired_2 : decode cX0_unpaired 2 = .ok (.iconst 0, 1) := by decide +kernel
theorem dX0_unpaired_3 : decode cX0_unpaired 3 = .ok (.istore_n 3, 1) := by decide +kernel
theorem dX0_unpaired_4 : decode cX0_unpaired 4 = .ok (.iconst 0, 1) := by decide +kernel
theorem dX0_unpaired_5 : decode cX0_unpaired 5 = .ok (.istore 4, 2) := by decide +kernel
theorem dX0_unpaired_7 : decode cX0_unpaired 7 = .ok (.iload 4, 2) := by decide +kernel
theorem dX0_unpaired_9 : decode cX0_unpaired 9 = .ok (.aload_n 1, 1) := by decide +kernel
theorem dX0_unpaired_10 : decode cX0_unpaired 10 = .ok (.invokevirtual 47, 3) := by decide +kernel
theorem dX0_unpaired_13 : decode cX0_unpaired 13 = .ok (.if_icmp .ge 66, 3) := by decide +kernel
theorem dX0_unpaired_16 : decode cX0_unpaired 16 = .ok (.aload_n 1, 1) := by decide +kernel
theorem dX0_unpaired_17 : decode cX0_unpaired 17 = .ok (.iload 4, 2) := by decide +kernel
theorem dX0_unpaired_19 : decode cX0_unpaired 19 = .ok (.invokevirtual 50, 3) := by decide +kernel
theorem dX0_unpaired_22 : decode cX0_unpaired 22 = .ok (.istore 5, 2) := by decide +kernel
theorem dX0_unpaired_24 : decode cX0_unpaired 24 = .ok (.iload 5, 2) := by decide +kernel
theorem dX0_unpaired_26 : decode cX0_unpaired 26 = .ok (.iconst 3, 1) := by decide +kernel
theorem dX0_unpaired_27 : decode cX0_unpaired 27 = .ok (.if_icmp .ne 17, 3) := by decide +kernel
theorem dX0_unpaired_30 : decode cX0_unpaired 30 = .ok (.aload_n 0, 1) := by decide +kernel
theorem dX0_unpaired_31 : decode cX0_unpaired 31 = .ok (.getfield 15, 3) := by decide +kernel
theorem dX0_unpaired_34 : decode cX0_unpaired 34 = .ok (.iload_n 3, 1) := by decide +kernel
theorem dX0_unpaired_35 : decode cX0_unpaired 35 = .ok (.iload 4, 2) := by decide +kernel
theorem dX0_unpaired_37 : decode cX0_unpaired 37 = .ok (.iastore, 1) := by decide +kernel
theorem dX0_unpaired_38 : decode cX0_unpaired 38 = .ok (.iinc 3 1, 3) := by decide +kernel
theorem dX0_unpaired_41 : decode cX0_unpaired 41 = .ok (.goto 32, 3) := by decide +kernel
theorem dX0_unpaired_44 : decode cX0_unpaired 44 = .ok (.iload 5, 2) := by decide +kernel
theorem dX0_unpaired_46 : decode cX0_unpaired 46 = .ok (.iconst 4, 1) := by decide +kernel
theorem dX0_unpaired_47 : decode cX0_unpaired 47 = .ok (.if_icmp .ne 13, 3) := by decide +kernel
theorem dX0_unpaired_50 : decode cX0_unpaired 50 = .ok (.iload_n 3, 1) := by decide +kernel
theorem dX0_unpaired_51 : decode cX0_unpaired 51 = .ok (.ifCond .le 9, 3) := by decide +kernel
theorem dX0_unpaired_54 : decode cX0_unpaired 54 = .ok (.iinc 3 (-1), 3) := by decide +kernel
theorem dX0_unpaired_57 : decode cX0_unpaired 57 = .ok (.goto 16, 3) := by decide +kernel
theorem dX0_unpaired_60 : decode cX0_unpaired 60 = .ok (.iload 5, 2) := by decide +kernel
theorem dX0_unpaired_62 : decode cX0_unpaired 62 = .ok (.iconst 4, 1) := by decide +kernel
theorem dX0_unpaired_63 : decode cX0_unpaired 63 = .ok (.if_icmp .ne 10, 3) := by decide +kernel
theorem dX0_unpaired_66 : decode cX0_unpaired 66 = .ok (.iload_n 2, 1) := by decide +kernel
theorem dX0_unpaired_67 : decode cX0_unpaired 67 = .ok (.iconst 1, 1) := by decide +kernel
theorem dX0_unpaired_68 : decode cX0_unpaired 68 = .ok (.iload 4, 2) := by decide +kernel
theorem dX0_unpaired_70 : decode cX0_unpaired 70 = .ok (.ishl, 1) := by decide +kernel
theorem dX0_unpaired_71 : decode cX0_unpaired 71 = .ok (.ior, 1) := by decide +kernel
theorem dX0_unpaired_72 : decode cX0_unpaired 72 = .ok (.istore_n 2, 1) := by decide +kernel
theorem dX0_unpaired_73 : decode cX0_unpaired 73 = .ok (.iinc 4 1, 3) := by decide +kernel
theorem dX0_unpaired_76 : decode cX0_unpaired 76 = .ok (.goto (-69), 3) := by decide +kernel
theorem dX0_unpaired_79 : decode cX0_unpaired 79 = .ok (.iconst 0, 1) := by decide +kernel
theorem dX0_unpaired_80 : decode cX0_unpaired 80 = .ok (.istore 4, 2) := by decide +kernel
theorem dX0_unpaired_82 : decode cX0_unpaired 82 = .ok (.iload 4, 2) := by decide +kernel
theorem dX0_unpaired_84 : decode cX0_unpaired 84 = .ok (.iload_n 3, 1) := by decide +kernel
theorem dX0_unpaired_85 : decode cX0_unpaired 85 = .ok (.if_icmp .ge 21, 3) := by decide +kernel
theorem dX0_unpaired_88 : decode cX0_unpaired 88 = .ok (.iload_n 2, 1) := by decide +kernel
theorem dX0_unpaired_89 : decode cX0_unpaired 89 = .ok (.iconst 1, 1) := by decide +kernel
theorem dX0_unpaired_90 : decode cX0_unpaired 90 = .ok (.aload_n 0, 1) := by decide +kernel
theorem dX0_unpaired_91 : decode cX0_unpaired 91 = .ok (.getfield 15, 3) := by decide +kernel
theorem dX0_unpaired_94 : decode cX0_unpaired 94 = .ok (.iload 4, 2) := by decide +kernel
theorem dX0_unpaired_96 : decode cX0_unpaired 96 = .ok (.iaload, 1) := by decide +kernel
theorem dX0_unpaired_97 : decode cX0_unpaired 97 = .ok (.ishl, 1) := by decide +kernel
theorem dX0_unpaired_98 : decode cX0_unpaired 98 = .ok (.ior, 1) := by decide +kernel
theorem dX0_unpaired_99 : decode cX0_unpaired 99 = .ok (.istore_n 2, 1) := by decide +kernel
theorem dX0_unpaired_100 : decode cX0_unpaired 100 = .ok (.iinc 4 1, 3) := by decide +kernel
theorem dX0_unpaired_103 : decode cX0_unpaired 103 = .ok (.goto (-21), 3) := by decide +kernel
theorem dX0_unpaired_106 : decode cX0_unpaired 106 = .ok (.iload_n 2, 1) := by decide +kernel
theorem dX0_unpaired_107 : decode cX0_unpaired 107 = .ok (.ireturn, 1) := by decide +kernel
theorem dX0_importsOf_0 : decode cX0_importsOf 0 = .ok (.iconst 0, 1) := by decide +kernel
theorem dX0_importsOf_1 : decode cX0_importsOf 1 = .ok (.istore_n 2, 1) := by decide +kernel
theorem dX0_importsOf_2 : decode cX0_importsOf 2 = .ok (.iconst 0, 1) := by decide +kernel
theorem dX0_importsOf_3 : decode cX0_importsOf 3 = .ok (.istore_n 3, 1) := by decide +kernel
theorem dX0_importsOf_4 : decode cX0_importsOf 4 = .ok (.iload_n 3, 1) := by decide +kernel
theorem dX0_importsOf_5 : decode cX0_importsOf 5 = .ok (.aload_n 0, 1) := by decide +kernel
theorem dX0_importsOf_6 : decode cX0_importsOf 6 = .ok (.invokevirtual 47, 3) := by decide +kernel
theorem dX0_importsOf_9 : decode cX0_importsOf 9 = .ok (.if_icmp .ge 39, 3) := by decide +kernel
theorem dX0_importsOf_12 : decode cX0_importsOf 12 = .ok (.aload_n 0, 1) := by decide +kernel
theorem dX0_importsOf_13 : decode cX0_importsOf 13 = .ok (.iload_n 3, 1) := by decide +kernel
theorem dX0_importsOf_14 : decode cX0_importsOf 14 = .ok (.invokevirtual 50, 3) := by decide +kernel
theorem dX0_importsOf_17 : decode cX0_importsOf 17 = .ok (.iconst 5, 1) := by decide +kernel
theorem dX0_importsOf_18 : decode cX0_importsOf 18 = .ok (.if_icmp .ne 24, 3) := by decide +kernel
theorem dX0_importsOf_21 : decode cX0_importsOf 21 = .ok (.iload_n 1, 1) := by decide +kernel
theorem dX0_importsOf_22 : decode cX0_importsOf 22 = .ok (.aload_n 0, 1) := by decide +kernel
theorem dX0_importsOf_23 : decode cX0_importsOf 23 = .ok (.iload_n 3, 1) := by decide +kernel
theorem dX0_importsOf_24 : decode cX0_importsOf 24 = .ok (.invokevirtual 53, 3) := by decide +kernel
theorem dX0_importsOf_27 : decode cX0_importsOf 27 = .ok (.bipush 6, 2) := by decide +kernel
theorem dX0_importsOf_29 : decode cX0_importsOf 29 = .ok (.irem, 1) := by decide +kernel
theorem dX0_importsOf_30 : decode cX0_importsOf 30 = .ok (.invokestatic 28, 3) := by decide +kernel
theorem dX0_importsOf_33 : decode cX0_importsOf 33 = .ok (.ifCond .eq 9, 3) := by decide +kernel
theorem dX0_importsOf_36 : decode cX0_importsOf 36 = .ok (.iload_n 2, 1) := by decide +kernel
theorem dX0_importsOf_37 : decode cX0_importsOf 37 = .ok (.iconst 1, 1) := by decide +kernel
theorem dX0_importsOf_38 : decode cX0_importsOf 38 = .ok (.iload_n 3, 1) := by decide +kernel
theorem dX0_importsOf_39 : decode cX0_importsOf 39 = .ok (.ishl, 1) := by decide +kernel
theorem dX0_importsOf_40 : decode cX0_importsOf 40 = .ok (.ior, 1) := by decide +kernel
theorem dX0_importsOf_41 : decode cX0_importsOf 41 = .ok (.istore_n 2, 1) := by decide +kernel
theorem dX0_importsOf_42 : decode cX0_importsOf 42 = .ok (.iinc 3 1, 3) := by decide +kernel
theorem dX0_importsOf_45 : decode cX0_importsOf 45 = .ok (.goto (-41), 3) := by decide +kernel
theorem dX0_importsOf_48 : decode cX0_importsOf 48 = .ok (.iload_n 2, 1) := by decide +kernel
theorem dX0_importsOf_49 : decode cX0_importsOf 49 = .ok (.ireturn, 1) := by decide +kernel
theorem dX1_init_0 : decode cX1_init 0 = .ok (.aload_n 0, 1) := by decide +kernel
theorem dX1_init_1 : decode cX1_init 1 = .ok (.invokespecial 3, 3) := by decide +kernel
theorem dX1_init_4 : decode cX1_init 4 = .ok (.aload_n 0, 1) := by decide +kernel
theorem dX1_init_5 : decode cX1_init 5 = .ok (.bipush 60, 2) := by decide +kernel
theorem dX1_init_7 : decode cX1_init 7 = .ok (.newarray .int, 2) := by decide +kernel
theorem dX1_init_9 : decode cX1_init 9 = .ok (.putfield 9, 3) := by decide +kernel
theorem dX1_init_12 : decode cX1_init 12 = .ok (.aload_n 0, 1) := by decide +kernel
theorem dX1_init_13 : decode cX1_init 13 = .ok (.bipush 60, 2) := by decide +kernel
theorem dX1_init_15 : decode cX1_init 15 = .ok (.newarray .int, 2) := by decide +kernel
theorem dX1_init_17 : decode cX1_init 17 = .ok (.putfield 15, 3) := by decide +kernel
theorem dX1_init_20 : decode cX1_init 20 = .ok (.aload_n 0, 1) := by decide +kernel
theorem dX1_init_21 : decode cX1_init 21 = .ok (.bipush 60, 2) := by decide +kernel
theorem dX1_init_23 : decode cX1_init 23 = .ok (.newarray .int, 2) := by decide +kernel
theorem dX1_init_25 : decode cX1_init 25 = .ok (.putfield 18, 3) := by decide +kernel
theorem dX1_init_28 : decode cX1_init 28 = .ok (.aload_n 0, 1) := by decide +kernel
theorem dX1_init_29 : decode cX1_init 29 = .ok (.bipush 60, 2) := by decide +kernel
theorem dX1_init_31 : decode cX1_init 31 = .ok (.newarray .int, 2) := by decide +kernel
theorem dX1_init_33 : decode cX1_init 33 = .ok (.putfield 21, 3) := by decide +kernel
theorem dX1_init_36 : decode cX1_init 36 = .ok (.return_, 1) := by decide +kernel
theorem dX1_size_0 : decode cX1_size 0 = .ok (.aload_n 0, 1) := by decide +kernel
theorem dX1_size_1 : decode cX1_size 1 = .ok (.getfield 24, 3) := by decide +kernel
theorem dX1_size_4 : decode cX1_size 4 = .ok (.ireturn, 1) := by decide +kernel
theorem dX1_add_0 : decode cX1_add 0 = .ok (.aload_n 0, 1) := by decide +kernel
theorem dX1_add_1 : decode cX1_add 1 = .ok (.getfield 9, 3) := by decide +kernel
theorem dX1_add_4 : decode cX1_add 4 = .ok (.aload_n 0, 1) := by decide +kernel
theorem dX1_add_5 : decode cX1_add 5 = .ok (.getfield 28, 3) := by decide +kernel
theorem dX1_add_8 : decode cX1_add 8 = .ok (.iload_n 1, 1) := by decide +kernel
theorem dX1_add_9 : decode cX1_add 9 = .ok (.iastore, 1) := by decide +kernel
theorem dX1_add_10 : decode cX1_add 10 = .ok (.aload_n 0, 1) := by decide +kernel
theorem dX1_add_11 : decode cX1_add 11 = .ok (.getfield 15, 3) := by decide +kernel
theorem dX1_add_14 : decode cX1_add 14 = .ok (.aload_n 0, 1) := by decide +kernel
theorem dX1_add_15 : decode cX1_add 15 = .ok (.getfield 28, 3) := by decide +kernel
theorem dX1_add_18 : decode cX1_add 18 = .ok (.iload_n 2, 1) := by decide +kernel
theorem dX1_add_19 : decode cX1_add 19 = .ok (.iastore, 1) := by decide +kernel
theorem dX1_add_20 : decode cX1_add 20 = .ok (.aload_n 0, 1) := by decide +kernel
theorem dX1_add_21 : decode cX1_add 21 = .ok (.getfield 18, 3) := by decide +kernel
theorem dX1_add_24 : decode cX1_add 24 = .ok (.aload_n 0, 1) := by decide +kernel
theorem dX1_add_25 : decode cX1_add 25 = .ok (.getfield 28, 3) := by decide +kernel
theorem dX1_add_28 : decode cX1_add 28 = .ok (.iload_n 3, 1) := by decide +kernel
theorem dX1_add_29 : decode cX1_add 29 = .ok (.iastore, 1) := by decide +kernel
theorem dX1_add_30 : decode cX1_add 30 = .ok (.aload_n 0, 1) := by decide +kernel
theorem dX1_add_31 : decode cX1_add 31 = .ok (.getfield 21, 3) := by decide +kernel
theorem dX1_add_34 : decode cX1_add 34 = .ok (.aload_n 0, 1) := by decide +kernel
theorem dX1_add_35 : decode cX1_add 35 = .ok (.getfield 28, 3) := by decide +kernel
theorem dX1_add_38 : decode cX1_add 38 = .ok (.iload 4, 2) := by decide +kernel
theorem dX1_add_40 : decode cX1_add 40 = .ok (.iastore, 1) := by decide +kernel
theorem dX1_add_41 : decode cX1_add 41 = .ok (.aload_n 0, 1) := by decide +kernel
theorem dX1_add_42 : decode cX1_add 42 = .ok (.aload_n 0, 1) := by decide +kernel
theorem dX1_add_43 : decode cX1_add 43 = .ok (.getfield 28, 3) := by decide +kernel
theorem dX1_add_46 : decode cX1_add 46 = .ok (.iconst 1, 1) := by decide +kernel
theorem dX1_add_47 : decode cX1_add 47 = .ok (.iadd, 1) := by decide +kernel
theorem dX1_add_48 : decode cX1_add 48 = .ok (.bipush 60, 2) := by decide +kernel
theorem dX1_add_50 : decode cX1_add 50 = .ok (.if_icmp .ge 12, 3) := by decide +kernel
theorem dX1_add_53 : decode cX1_add 53 = .ok (.aload_n 0, 1) := by decide +kernel
theorem dX1_add_54 : decode cX1_add 54 = .ok (.getfield 28, 3) := by decide +kernel
theorem dX1_add_57 : decode cX1_add 57 = .ok (.iconst 1, 1) := by decide +kernel
theorem dX1_add_58 : decode cX1_add 58 = .ok (.iadd, 1) := by decide +kernel
theorem dX1_add_59 : decode cX1_add 59 = .ok (.goto 4, 3) := by decide +kernel
theorem dX1_add_62 : decode cX1_add 62 = .ok (.iconst 0, 1) := by decide +kernel
theorem dX1_add_63 : decode cX1_add 63 = .ok (.putfield 28, 3) := by decide +kernel
theorem dX1_add_66 : decode cX1_add 66 = .ok (.aload_n 0, 1) := by decide +kernel
theorem dX1_add_67 : decode cX1_add 67 = .ok (.aload_n 0, 1) := by decide +kernel
theorem dX1_add_68 : decode cX1_add 68 = .ok (.getfield 24, 3) := by decide +kernel
theorem dX1_add_71 : decode cX1_add 71 = .ok (.iconst 1, 1) := by decide +kernel
theorem dX1_add_72 : decode cX1_add 72 = .ok (.iadd, 1) := by decide +kernel
theorem dX1_add_73 : decode cX1_add 73 = .ok (.bipush 60, 2) := by decide +kernel
theorem dX1_add_75 : decode cX1_add 75 = .ok (.invokestatic 31, 3) := by decide +kernel
theorem dX1_add_78 : decode cX1_add 78 = .ok (.putfield 24, 3) := by decide +kernel
theorem dX1_add_81 : decode cX1_add 81 = .ok (.return_, 1) := by decide +kernel
theorem dX1_placeOf_0 : decode cX1_placeOf 0 = .ok (.aload_n 0, 1) := by decide +kernel
theorem dX1_placeOf_1 : decode cX1_placeOf 1 = .ok (.getfield 28, 3) := by decide +kernel
theorem dX1_placeOf_4 : decode cX1_placeOf 4 = .ok (.iconst 1, 1) := by decide +kernel
theorem dX1_placeOf_5 : decode cX1_placeOf 5 = .ok (.isub, 1) := by decide +kernel
theorem dX1_placeOf_6 : decode cX1_placeOf 6 = .ok (.iload_n 1, 1) := by decide +kernel
theorem dX1_placeOf_7 : decode cX1_placeOf 7 = .ok (.isub, 1) := by decide +kernel
theorem dX1_placeOf_8 : decode cX1_placeOf 8 = .ok (.istore_n 2, 1) := by decide +kernel
theorem dX1_placeOf_9 : decode cX1_placeOf 9 = .ok (.iload_n 2, 1) := by decide +kernel
theorem dX1_placeOf_10 : decode cX1_placeOf 10 = .ok (.ifCond .lt 7, 3) := by decide +kernel
theorem dX1_placeOf_13 : decode cX1_placeOf 13 = .ok (.iload_n 2, 1) := by decide +kernel
theorem dX1_placeOf_14 : decode cX1_placeOf 14 = .ok (.goto 7, 3) := by decide +kernel
theorem dX1_placeOf_17 : decode cX1_placeOf 17 = .ok (.iload_n 2, 1) := by decide +kernel
theorem dX1_placeOf_18 : decode cX1_placeOf 18 = .ok (.bipush 60, 2) := by decide +kernel
theorem dX1_placeOf_20 : decode cX1_placeOf 20 = .ok (.iadd, 1) := by decide +kernel
theorem dX1_placeOf_21 : decode cX1_placeOf 21 = .ok (.ireturn, 1) := by decide +kernel
theorem dX1_ruleAt_0 : decode cX1_ruleAt 0 = .ok (.aload_n 0, 1) := by decide +kernel
theorem dX1_ruleAt_1 : decode cX1_ruleAt 1 = .ok (.getfield 9, 3) := by decide +kernel
theorem dX1_ruleAt_4 : decode cX1_ruleAt 4 = .ok (.iload_n 1, 1) := by decide +kernel
theorem dX1_ruleAt_5 : decode cX1_ruleAt 5 = .ok (.iaload, 1) := by decide +kernel
theorem dX1_ruleAt_6 : decode cX1_ruleAt 6 = .ok (.ireturn, 1) := by decide +kernel
theorem dX1_idAt_0 : decode cX1_idAt 0 = .ok (.aload_n 0, 1) := by decide +kernel
theorem dX1_idAt_1 : decode cX1_idAt 1 = .ok (.getfield 15, 3) := by decide +kernel
theorem dX1_idAt_4 : decode cX1_idAt 4 = .ok (.iload_n 1, 1) := by decide +kernel
theorem dX1_idAt_5 : decode cX1_idAt 5 = .ok (.iaload, 1) := by decide +kernel
theorem dX1_idAt_6 : decode cX1_idAt 6 = .ok (.ireturn, 1) := by decide +kernel
theorem dX1_sinceAt_0 : decode cX1_sinceAt 0 = .ok (.aload_n 0, 1) := by decide +kernel
theorem dX1_sinceAt_1 : decode cX1_sinceAt 1 = .ok (.getfield 18, 3) := by decide +kernel
theorem dX1_sinceAt_4 : decode cX1_sinceAt 4 = .ok (.iload_n 1, 1) := by decide +kernel
theorem dX1_sinceAt_5 : decode cX1_sinceAt 5 = .ok (.iaload, 1) := by decide +kernel
theorem dX1_sinceAt_6 : decode cX1_sinceAt 6 = .ok (.ireturn, 1) := by decide +kernel
theorem dX1_endAt_0 : decode cX1_endAt 0 = .ok (.aload_n 0, 1) := by decide +kernel
theorem dX1_endAt_1 : decode cX1_endAt 1 = .ok (.getfield 21, 3) := by decide +kernel
theorem dX1_endAt_4 : decode cX1_endAt 4 = .ok (.iload_n 1, 1) := by decide +kernel
theorem dX1_endAt_5 : decode cX1_endAt 5 = .ok (.iaload, 1) := by decide +kernel
theorem dX1_endAt_6 : decode cX1_endAt 6 = .ok (.ireturn, 1) := by decide +kernel
theorem dX2_init_0 : decode cX2_init 0 = .ok (.aload_n 0, 1) := by decide +kernel
theorem dX2_init_1 : decode cX2_init 1 = .ok (.invokespecial 3, 3) := by decide +kernel
theorem dX2_init_4 : decode cX2_init 4 = .ok (.aload_n 0, 1) := by decide +kernel
theorem dX2_init_5 : decode cX2_init 5 = .ok (.bipush 32, 2) := by decide +kernel
theorem dX2_init_7 : decode cX2_init 7 = .ok (.newarray .int, 2) := by decide +kernel
theorem dX2_init_9 : decode cX2_init 9 = .ok (.putfield 9, 3) := by decide +kernel
theorem dX2_init_12 : decode cX2_init 12 = .ok (.aload_n 0, 1) := by decide +kernel
theorem dX2_init_13 : decode cX2_init 13 = .ok (.bipush 32, 2) := by decide +kernel
theorem dX2_init_15 : decode cX2_init 15 = .ok (.newarray .int, 2) := by decide +kernel
theorem dX2_init_17 : decode cX2_init 17 = .ok (.putfield 15, 3) := by decide +kernel
theorem dX2_init_20 : decode cX2_init 20 = .ok (.aload_n 0, 1) := by decide +kernel
theorem dX2_init_21 : decode cX2_init 21 = .ok (.bipush 32, 2) := by decide +kernel
theorem dX2_init_23 : decode cX2_init 23 = .ok (.newarray .int, 2) := by decide +kernel
theorem dX2_init_25 : decode cX2_init 25 = .ok (.putfield 18, 3) := by decide +kernel
theorem dX2_init_28 : decode cX2_init 28 = .ok (.aload_n 0, 1) := by decide +kernel
theorem dX2_init_29 : decode cX2_init 29 = .ok (.bipush 32, 2) := by decide +kernel
theorem dX2_init_31 : decode cX2_init 31 = .ok (.newarray .int, 2) := by decide +kernel
theorem dX2_init_33 : decode cX2_init 33 = .ok (.putfield 21, 3) := by decide +kernel
theorem dX2_init_36 : decode cX2_init 36 = .ok (.aload_n 0, 1) := by decide +kernel
theorem dX2_init_37 : decode cX2_init 37 = .ok (.bipush 32, 2) := by decide +kernel
theorem dX2_init_39 : decode cX2_init 39 = .ok (.newarray .int, 2) := by decide +kernel
theorem dX2_init_41 : decode cX2_init 41 = .ok (.putfield 24, 3) := by decide +kernel
theorem dX2_init_44 : decode cX2_init 44 = .ok (.aload_n 0, 1) := by decide +kernel
theorem dX2_init_45 : decode cX2_init 45 = .ok (.bipush 32, 2) := by decide +kernel
theorem dX2_init_47 : decode cX2_init 47 = .ok (.newarray .int, 2) := by decide +kernel
theorem dX2_init_49 : decode cX2_init 49 = .ok (.putfield 27, 3) := by decide +kernel
theorem dX2_init_52 : decode cX2_init 52 = .ok (.return_, 1) := by decide +kernel
theorem dX2_size_0 : decode cX2_size 0 = .ok (.aload_n 0, 1) := by decide +kernel
theorem dX2_size_1 : decode cX2_size 1 = .ok (.getfield 30, 3) := by decide +kernel
theorem dX2_size_4 : decode cX2_size 4 = .ok (.ireturn, 1) := by decide +kernel
theorem dX2_ruleAt_0 : decode cX2_ruleAt 0 = .ok (.aload_n 0, 1) := by decide +kernel
theorem dX2_ruleAt_1 : decode cX2_ruleAt 1 = .ok (.getfield 9, 3) := by decide +kernel
theorem dX2_ruleAt_4 : decode cX2_ruleAt 4 = .ok (.iload_n 1, 1) := by decide +kernel
theorem dX2_ruleAt_5 : decode cX2_ruleAt 5 = .ok (.iaload, 1) := by decide +kernel
theorem dX2_ruleAt_6 : decode cX2_ruleAt 6 = .ok (.ireturn, 1) := by decide +kernel
theorem dX2_lineAt_0 : decode cX2_lineAt 0 = .ok (.aload_n 0, 1) := by decide +kernel
theorem dX2_lineAt_1 : decode cX2_lineAt 1 = .ok (.getfield 15, 3) := by decide +kernel
theorem dX2_lineAt_4 : decode cX2_lineAt 4 = .ok (.iload_n 1, 1) := by decide +kernel
theorem dX2_lineAt_5 : decode cX2_lineAt 5 = .ok (.iaload, 1) := by decide +kernel
theorem dX2_lineAt_6 : decode cX2_lineAt 6 = .ok (.ireturn, 1) := by decide +kernel
theorem dX2_idAt_0 : decode cX2_idAt 0 = .ok (.aload_n 0, 1) := by decide +kernel
theorem dX2_idAt_1 : decode cX2_idAt 1 = .ok (.getfield 18, 3) := by decide +kernel
theorem dX2_idAt_4 : decode cX2_idAt 4 = .ok (.iload_n 1, 1) := by decide +kernel
theorem dX2_idAt_5 : decode cX2_idAt 5 = .ok (.iaload, 1) := by decide +kernel
theorem dX2_idAt_6 : decode cX2_idAt 6 = .ok (.ireturn, 1) := by decide +kernel
theorem dX2_sinceAt_0 : decode cX2_sinceAt 0 = .ok (.aload_n 0, 1) := by decide +kernel
theorem dX2_sinceAt_1 : decode cX2_sinceAt 1 = .ok (.getfield 21, 3) := by decide +kernel
theorem dX2_sinceAt_4 : decode cX2_sinceAt 4 = .ok (.iload_n 1, 1) := by decide +kernel
theorem dX2_sinceAt_5 : decode cX2_sinceAt 5 = .ok (.iaload, 1) := by decide +kernel
theorem dX2_sinceAt_6 : decode cX2_sinceAt 6 = .ok (.ireturn, 1) := by decide +kernel
theorem dX2_isSilenced_0 : decode cX2_isSilenced 0 = .ok (.aload_n 0, 1) := by decide +kernel
theorem dX2_isSilenced_1 : decode cX2_isSilenced 1 = .ok (.getfield 24, 3) := by decide +kernel
theorem dX2_isSilenced_4 : decode cX2_isSilenced 4 = .ok (.iload_n 1, 1) := by decide +kernel
theorem dX2_isSilenced_5 : decode cX2_isSilenced 5 = .ok (.iaload, 1) := by decide +kernel
theorem dX2_isSilenced_6 : decode cX2_isSilenced 6 = .ok (.iload_n 2, 1) := by decide +kernel
theorem dX2_isSilenced_7 : decode cX2_isSilenced 7 = .ok (.if_icmp .le 7, 3) := by decide +kernel
theorem dX2_isSilenced_10 : decode cX2_isSilenced 10 = .ok (.iconst 1, 1) := by decide +kernel
theorem dX2_isSilenced_11 : decode cX2_isSilenced 11 = .ok (.goto 4, 3) := by decide +kernel
theorem dX2_isSilenced_14 : decode cX2_isSilenced 14 = .ok (.iconst 0, 1) := by decide +kernel
theorem dX2_isSilenced_15 : decode cX2_isSilenced 15 = .ok (.ireturn, 1) := by decide +kernel
theorem dX2_daysLeft_0 : decode cX2_daysLeft 0 = .ok (.aload_n 0, 1) := by decide +kernel
theorem dX2_daysLeft_1 : decode cX2_daysLeft 1 = .ok (.iload_n 1, 1) := by decide +kernel
theorem dX2_daysLeft_2 : decode cX2_daysLeft 2 = .ok (.iload_n 2, 1) := by decide +kernel
theorem dX2_daysLeft_3 : decode cX2_daysLeft 3 = .ok (.invokevirtual 34, 3) := by decide +kernel
theorem dX2_daysLeft_6 : decode cX2_daysLeft 6 = .ok (.ifCond .eq 14, 3) := by decide +kernel
theorem dX2_daysLeft_9 : decode cX2_daysLeft 9 = .ok (.aload_n 0, 1) := by decide +kernel
theorem dX2_daysLeft_10 : decode cX2_daysLeft 10 = .ok (.getfield 24, 3) := by decide +kernel
theorem dX2_daysLeft_13 : decode cX2_daysLeft 13 = .ok (.iload_n 1, 1) := by decide +kernel
theorem dX2_daysLeft_14 : decode cX2_daysLeft 14 = .ok (.iaload, 1) := by decide +kernel
theorem dX2_daysLeft_15 : decode cX2_daysLeft 15 = .ok (.iload_n 2, 1) := by decide +kernel
theorem dX2_daysLeft_16 : decode cX2_daysLeft 16 = .ok (.isub, 1) := by decide +kernel
theorem dX2_daysLeft_17 : decode cX2_daysLeft 17 = .ok (.goto 4, 3) := by decide +kernel
theorem dX2_daysLeft_20 : decode cX2_daysLeft 20 = .ok (.iconst 0, 1) := by decide +kernel
theorem dX2_daysLeft_21 : decode cX2_daysLeft 21 = .ok (.ireturn, 1) := by decide +kernel
theorem dX2_reasonAt_0 : decode cX2_reasonAt 0 = .ok (.aload_n 0, 1) := by decide +kernel
theorem dX2_reasonAt_1 : decode cX2_reasonAt 1 = .ok (.iload_n 1, 1) := by decide +kernel
theorem dX2_reasonAt_2 : decode cX2_reasonAt 2 = .ok (.iload_n 2, 1) := by decide +kernel
theorem dX2_reasonAt_3 : decode cX2_reasonAt 3 = .ok (.invokevirtual 34, 3) := by decide +kernel
theorem dX2_reasonAt_6 : decode cX2_reasonAt 6 = .ok (.ifCond .eq 12, 3) := by decide +kernel
theorem dX2_reasonAt_9 : decode cX2_reasonAt 9 = .ok (.aload_n 0, 1) := by decide +kernel
theorem dX2_reasonAt_10 : decode cX2_reasonAt 10 = .ok (.getfield 27, 3) := by decide +kernel
theorem dX2_reasonAt_13 : decode cX2_reasonAt 13 = .ok (.iload_n 1, 1) := by decide +kernel
theorem dX2_reasonAt_14 : decode cX2_reasonAt 14 = .ok (.iaload, 1) := by decide +kernel
theorem dX2_reasonAt_15 : decode cX2_reasonAt 15 = .ok (.goto 4, 3) := by decide +kernel
theorem dX2_reasonAt_18 : decode cX2_reasonAt 18 = .ok (.iconst (-1), 1) := by decide +kernel
theorem dX2_reasonAt_19 : decode cX2_reasonAt 19 = .ok (.ireturn, 1) := by decide +kernel
theorem dX2_hush_0 : decode cX2_hush 0 = .ok (.aload_n 0, 1) := by decide +kernel
theorem dX2_hush_1 : decode cX2_hush 1 = .ok (.getfield 24, 3) := by decide +kernel
theorem dX2_hush_4 : decode cX2_hush 4 = .ok (.iload_n 1, 1) := by decide +kernel
theorem dX2_hush_5 : decode cX2_hush 5 = .ok (.iload_n 2, 1) := by decide +kernel
theorem dX2_hush_6 : decode cX2_hush 6 = .ok (.iastore, 1) := by decide +kernel
theorem dX2_hush_7 : decode cX2_hush 7 = .ok (.aload_n 0, 1) := by decide +kernel
theorem dX2_hush_8 : decode cX2_hush 8 = .ok (.getfield 27, 3) := by decide +kernel
theorem dX2_hush_11 : decode cX2_hush 11 = .ok (.iload_n 1, 1) := by decide +kernel
theorem dX2_hush_12 : decode cX2_hush 12 = .ok (.iload_n 3, 1) := by decide +kernel
theorem dX2_hush_13 : decode cX2_hush 13 = .ok (.iastore, 1) := by decide +kernel
theorem dX2_hush_14 : decode cX2_hush 14 = .ok (.return_, 1) := by decide +kernel
theorem dX2_unhush_0 : decode cX2_unhush 0 = .ok (.aload_n 0, 1) := by decide +kernel
theorem dX2_unhush_1 : decode cX2_unhush 1 = .ok (.getfield 24, 3) := by decide +kernel
theorem dX2_unhush_4 : decode cX2_unhush 4 = .ok (.iload_n 1, 1) := by decide +kernel
theorem dX2_unhush_5 : decode cX2_unhush 5 = .ok (.iconst 0, 1) := by decide +kernel
theorem dX2_unhush_6 : decode cX2_unhush 6 = .ok (.iastore, 1) := by decide +kernel
theorem dX2_unhush_7 : decode cX2_unhush 7 = .ok (.return_, 1) := by decide +kernel
theorem dX2_clear_0 : decode cX2_clear 0 = .ok (.aload_n 0, 1) := by decide +kernel
theorem dX2_clear_1 : decode cX2_clear 1 = .ok (.iconst 0, 1) := by decide +kernel
theorem dX2_clear_2 : decode cX2_clear 2 = .ok (.putfield 30, 3) := by decide +kernel
theorem dX2_clear_5 : decode cX2_clear 5 = .ok (.return_, 1) := by decide +kernel
theorem dX2_add_0 : decode cX2_add 0 = .ok (.aload_n 0, 1) := by decide +kernel
theorem dX2_add_1 : decode cX2_add 1 = .ok (.getfield 30, 3) := by decide +kernel
theorem dX2_add_4 : decode cX2_add 4 = .ok (.bipush 32, 2) := by decide +kernel
theorem dX2_add_6 : decode cX2_add 6 = .ok (.if_icmp .lt 4, 3) := by decide +kernel
theorem dX2_add_9 : decode cX2_add 9 = .ok (.return_, 1) := by decide +kernel
theorem dX2_add_10 : decode cX2_add 10 = .ok (.aload_n 0, 1) := by decide +kernel
theorem dX2_add_11 : decode cX2_add 11 = .ok (.getfield 9, 3) := by decide +kernel
theorem dX2_add_14 : decode cX2_add 14 = .ok (.aload_n 0, 1) := by decide +kernel
theorem dX2_add_15 : decode cX2_add 15 = .ok (.getfield 30, 3) := by decide +kernel
theorem dX2_add_18 : decode cX2_add 18 = .ok (.iload_n 1, 1) := by decide +kernel
theorem dX2_add_19 : decode cX2_add 19 = .ok (.iastore, 1) := by decide +kernel
theorem dX2_add_20 : decode cX2_add 20 = .ok (.aload_n 0, 1) := by decide +kernel
theorem dX2_add_21 : decode cX2_add 21 = .ok (.getfield 15, 3) := by decide +kernel
theorem dX2_add_24 : decode cX2_add 24 = .ok (.aload_n 0, 1) := by decide +kernel
theorem dX2_add_25 : decode cX2_add 25 = .ok (.getfield 30, 3) := by decide +kernel
theorem dX2_add_28 : decode cX2_add 28 = .ok (.iload_n 2, 1) := by decide +kernel
theorem dX2_add_29 : decode cX2_add 29 = .ok (.iastore, 1) := by decide +kernel
theorem dX2_add_30 : decode cX2_add 30 = .ok (.aload_n 0, 1) := by decide +kernel
theorem dX2_add_31 : decode cX2_add 31 = .ok (.getfield 18, 3) := by decide +kernel
theorem dX2_add_34 : decode cX2_add 34 = .ok (.aload_n 0, 1) := by decide +kernel
theorem dX2_add_35 : decode cX2_add 35 = .ok (.getfield 30, 3) := by decide +kernel
theorem dX2_add_38 : decode cX2_add 38 = .ok (.iload_n 3, 1) := by decide +kernel
theorem dX2_add_39 : decode cX2_add 39 = .ok (.iastore, 1) := by decide +kernel
theorem dX2_add_40 : decode cX2_add 40 = .ok (.aload_n 0, 1) := by decide +kernel
theorem dX2_add_41 : decode cX2_add 41 = .ok (.getfield 21, 3) := by decide +kernel
theorem dX2_add_44 : decode cX2_add 44 = .ok (.aload_n 0, 1) := by decide +kernel
theorem dX2_add_45 : decode cX2_add 45 = .ok (.getfield 30, 3) := by decide +kernel
theorem dX2_add_48 : decode cX2_add 48 = .ok (.iload 4, 2) := by decide +kernel
theorem dX2_add_50 : decode cX2_add 50 = .ok (.iastore, 1) := by decide +kernel
theorem dX2_add_51 : decode cX2_add 51 = .ok (.aload_n 0, 1) := by decide +kernel
theorem dX2_add_52 : decode cX2_add 52 = .ok (.getfield 24, 3) := by decide +kernel
theorem dX2_add_55 : decode cX2_add 55 = .ok (.aload_n 0, 1) := by decide +kernel
theorem dX2_add_56 : decode cX2_add 56 = .ok (.getfield 30, 3) := by decide +kernel
theorem dX2_add_59 : decode cX2_add 59 = .ok (.iconst 0, 1) := by decide +kernel
theorem dX2_add_60 : decode cX2_add 60 = .ok (.iastore, 1) := by decide +kernel
theorem dX2_add_61 : decode cX2_add 61 = .ok (.aload_n 0, 1) := by decide +kernel
theorem dX2_add_62 : decode cX2_add 62 = .ok (.getfield 27, 3) := by decide +kernel
theorem dX2_add_65 : decode cX2_add 65 = .ok (.aload_n 0, 1) := by decide +kernel
theorem dX2_add_66 : decode cX2_add 66 = .ok (.getfield 30, 3) := by decide +kernel
theorem dX2_add_69 : decode cX2_add 69 = .ok (.iconst (-1), 1) := by decide +kernel
theorem dX2_add_70 : decode cX2_add 70 = .ok (.iastore, 1) := by decide +kernel
theorem dX2_add_71 : decode cX2_add 71 = .ok (.aload_n 0, 1) := by decide +kernel
theorem dX2_add_72 : decode cX2_add 72 = .ok (.dup, 1) := by decide +kernel
theorem dX2_add_73 : decode cX2_add 73 = .ok (.getfield 30, 3) := by decide +kernel
theorem dX2_add_76 : decode cX2_add 76 = .ok (.iconst 1, 1) := by decide +kernel
theorem dX2_add_77 : decode cX2_add 77 = .ok (.iadd, 1) := by decide +kernel
theorem dX2_add_78 : decode cX2_add 78 = .ok (.putfield 30, 3) := by decide +kernel
theorem dX2_add_81 : decode cX2_add 81 = .ok (.return_, 1) := by decide +kernel
theorem dX2_takeOver_0 : decode cX2_takeOver 0 = .ok (.aload_n 0, 1) := by decide +kernel
theorem dX2_takeOver_1 : decode cX2_takeOver 1 = .ok (.getfield 30, 3) := by decide +kernel
theorem dX2_takeOver_4 : decode cX2_takeOver 4 = .ok (.iconst 1, 1) := by decide +kernel
theorem dX2_takeOver_5 : decode cX2_takeOver 5 = .ok (.isub, 1) := by decide +kernel
theorem dX2_takeOver_6 : decode cX2_takeOver 6 = .ok (.istore_n 2, 1) := by decide +kernel
theorem dX2_takeOver_7 : decode cX2_takeOver 7 = .ok (.iload_n 2, 1) := by decide +kernel
theorem dX2_takeOver_8 : decode cX2_takeOver 8 = .ok (.ifCond .ge 4, 3) := by decide +kernel
theorem dX2_takeOver_11 : decode cX2_takeOver 11 = .ok (.return_, 1) := by decide +kernel
theorem dX2_takeOver_12 : decode cX2_takeOver 12 = .ok (.aload_n 1, 1) := by decide +kernel
theorem dX2_takeOver_13 : decode cX2_takeOver 13 = .ok (.aload_n 0, 1) := by decide +kernel
theorem dX2_takeOver_14 : decode cX2_takeOver 14 = .ok (.getfield 9, 3) := by decide +kernel
theorem dX2_takeOver_17 : decode cX2_takeOver 17 = .ok (.iload_n 2, 1) := by decide +kernel
theorem dX2_takeOver_18 : decode cX2_takeOver 18 = .ok (.iaload, 1) := by decide +kernel
theorem dX2_takeOver_19 : decode cX2_takeOver 19 = .ok (.aload_n 0, 1) := by decide +kernel
theorem dX2_takeOver_20 : decode cX2_takeOver 20 = .ok (.getfield 18, 3) := by decide +kernel
theorem dX2_takeOver_23 : decode cX2_takeOver 23 = .ok (.iload_n 2, 1) := by decide +kernel
theorem dX2_takeOver_24 : decode cX2_takeOver 24 = .ok (.iaload, 1) := by decide +kernel
theorem dX2_takeOver_25 : decode cX2_takeOver 25 = .ok (.invokevirtual 38, 3) := by decide +kernel
theorem dX2_takeOver_28 : decode cX2_takeOver 28 = .ok (.istore_n 3, 1) := by decide +kernel
theorem dX2_takeOver_29 : decode cX2_takeOver 29 = .ok (.iload_n 3, 1) := by decide +kernel
theorem dX2_takeOver_30 : decode cX2_takeOver 30 = .ok (.iconst (-1), 1) := by decide +kernel
theorem dX2_takeOver_31 : decode cX2_takeOver 31 = .ok (.if_icmp .eq 39, 3) := by decide +kernel
theorem dX2_takeOver_34 : decode cX2_takeOver 34 = .ok (.aload_n 0, 1) := by decide +kernel
theorem dX2_takeOver_35 : decode cX2_takeOver 35 = .ok (.getfield 21, 3) := by decide +kernel
theorem dX2_takeOver_38 : decode cX2_takeOver 38 = .ok (.iload_n 2, 1) := by decide +kernel
theorem dX2_takeOver_39 : decode cX2_takeOver 39 = .ok (.aload_n 1, 1) := by decide +kernel
theorem dX2_takeOver_40 : decode cX2_takeOver 40 = .ok (.getfield 21, 3) := by decide +kernel
theorem dX2_takeOver_43 : decode cX2_takeOver 43 = .ok (.iload_n 3, 1) := by decide +kernel
theorem dX2_takeOver_44 : decode cX2_takeOver 44 = .ok (.iaload, 1) := by decide +kernel
theorem dX2_takeOver_45 : decode cX2_takeOver 45 = .ok (.iastore, 1) := by decide +kernel
theorem dX2_takeOver_46 : decode cX2_takeOver 46 = .ok (.aload_n 0, 1) := by decide +kernel
theorem dX2_takeOver_47 : decode cX2_takeOver 47 = .ok (.getfield 24, 3) := by decide +kernel
theorem dX2_takeOver_50 : decode cX2_takeOver 50 = .ok (.iload_n 2, 1) := by decide +kernel
theorem dX2_takeOver_51 : decode cX2_takeOver 51 = .ok (.aload_n 1, 1) := by decide +kernel
theorem dX2_takeOver_52 : decode cX2_takeOver 52 = .ok (.getfield 24, 3) := by decide +kernel
theorem dX2_takeOver_55 : decode cX2_takeOver 55 = .ok (.iload_n 3, 1) := by decide +kernel
theorem dX2_takeOver_56 : decode cX2_takeOver 56 = .ok (.iaload, 1) := by decide +kernel
theorem dX2_takeOver_57 : decode cX2_takeOver 57 = .ok (.iastore, 1) := by decide +kernel
theorem dX2_takeOver_58 : decode cX2_takeOver 58 = .ok (.aload_n 0, 1) := by decide +kernel
theorem dX2_takeOver_59 : decode cX2_takeOver 59 = .ok (.getfield 27, 3) := by decide +kernel
theorem dX2_takeOver_62 : decode cX2_takeOver 62 = .ok (.iload_n 2, 1) := by decide +kernel
theorem dX2_takeOver_63 : decode cX2_takeOver 63 = .ok (.aload_n 1, 1) := by decide +kernel
theorem dX2_takeOver_64 : decode cX2_takeOver 64 = .ok (.getfield 27, 3) := by decide +kernel
theorem dX2_takeOver_67 : decode cX2_takeOver 67 = .ok (.iload_n 3, 1) := by decide +kernel
theorem dX2_takeOver_68 : decode cX2_takeOver 68 = .ok (.iaload, 1) := by decide +kernel
theorem dX2_takeOver_69 : decode cX2_takeOver 69 = .ok (.iastore, 1) := by decide +kernel
theorem dX2_takeOver_70 : decode cX2_takeOver 70 = .ok (.return_, 1) := by decide +kernel
theorem dX2_placeOf_0 : decode cX2_placeOf 0 = .ok (.iconst 0, 1) := by decide +kernel
theorem dX2_placeOf_1 : decode cX2_placeOf 1 = .ok (.istore_n 3, 1) := by decide +kernel
theorem dX2_placeOf_2 : decode cX2_placeOf 2 = .ok (.iload_n 3, 1) := by decide +kernel
theorem dX2_placeOf_3 : decode cX2_placeOf 3 = .ok (.aload_n 0, 1) := by decide +kernel
theorem dX2_placeOf_4 : decode cX2_placeOf 4 = .ok (.getfield 30, 3) := by decide +kernel
theorem dX2_placeOf_7 : decode cX2_placeOf 7 = .ok (.if_icmp .ge 31, 3) := by decide +kernel
theorem dX2_placeOf_10 : decode cX2_placeOf 10 = .ok (.aload_n 0, 1) := by decide +kernel
theorem dX2_placeOf_11 : decode cX2_placeOf 11 = .ok (.getfield 9, 3) := by decide +kernel
theorem dX2_placeOf_14 : decode cX2_placeOf 14 = .ok (.iload_n 3, 1) := by decide +kernel
theorem dX2_placeOf_15 : decode cX2_placeOf 15 = .ok (.iaload, 1) := by decide +kernel
theorem dX2_placeOf_16 : decode cX2_placeOf 16 = .ok (.iload_n 1, 1) := by decide +kernel
theorem dX2_placeOf_17 : decode cX2_placeOf 17 = .ok (.if_icmp .ne 15, 3) := by decide +kernel
theorem dX2_placeOf_20 : decode cX2_placeOf 20 = .ok (.aload_n 0, 1) := by decide +kernel
theorem dX2_placeOf_21 : decode cX2_placeOf 21 = .ok (.getfield 18, 3) := by decide +kernel
theorem dX2_placeOf_24 : decode cX2_placeOf 24 = .ok (.iload_n 3, 1) := by decide +kernel
theorem dX2_placeOf_25 : decode cX2_placeOf 25 = .ok (.iaload, 1) := by decide +kernel
theorem dX2_placeOf_26 : decode cX2_placeOf 26 = .ok (.iload_n 2, 1) := by decide +kernel
theorem dX2_placeOf_27 : decode cX2_placeOf 27 = .ok (.if_icmp .ne 5, 3) := by decide +kernel
theorem dX2_placeOf_30 : decode cX2_placeOf 30 = .ok (.iload_n 3, 1) := by decide +kernel
theorem dX2_placeOf_31 : decode cX2_placeOf 31 = .ok (.ireturn, 1) := by decide +kernel
theorem dX2_placeOf_32 : decode cX2_placeOf 32 = .ok (.iinc 3 1, 3) := by decide +kernel
theorem dX2_placeOf_35 : decode cX2_placeOf 35 = .ok (.goto (-33), 3) := by decide +kernel
theorem dX2_placeOf_38 : decode cX2_placeOf 38 = .ok (.iconst (-1), 1) := by decide +kernel
theorem dX2_placeOf_39 : decode cX2_placeOf 39 = .ok (.ireturn, 1) := by decide +kernel
theorem dX2_logEnded_0 : decode cX2_logEnded 0 = .ok (.iconst 0, 1) := by decide +kernel
theorem dX2_logEnded_1 : decode cX2_logEnded 1 = .ok (.istore 4, 2) := by decide +kernel
theorem dX2_logEnded_3 : decode cX2_logEnded 3 = .ok (.iload 4, 2) := by decide +kernel
theorem dX2_logEnded_5 : decode cX2_logEnded 5 = .ok (.aload_n 0, 1) := by decide +kernel
theorem dX2_logEnded_6 : decode cX2_logEnded 6 = .ok (.getfield 30, 3) := by decide +kernel
theorem dX2_logEnded_9 : decode cX2_logEnded 9 = .ok (.if_icmp .ge 57, 3) := by decide +kernel
theorem dX2_logEnded_12 : decode cX2_logEnded 12 = .ok (.aload_n 1, 1) := by decide +kernel
theorem dX2_logEnded_13 : decode cX2_logEnded 13 = .ok (.aload_n 0, 1) := by decide +kernel
theorem dX2_logEnded_14 : decode cX2_logEnded 14 = .ok (.getfield 9, 3) := by decide +kernel
theorem dX2_logEnded_17 : decode cX2_logEnded 17 = .ok (.iload 4, 2) := by decide +kernel
theorem dX2_logEnded_19 : decode cX2_logEnded 19 = .ok (.iaload, 1) := by decide +kernel
theorem dX2_logEnded_20 : decode cX2_logEnded 20 = .ok (.aload_n 0, 1) := by decide +kernel
theorem dX2_logEnded_21 : decode cX2_logEnded 21 = .ok (.getfield 18, 3) := by decide +kernel
theorem dX2_logEnded_24 : decode cX2_logEnded 24 = .ok (.iload 4, 2) := by decide +kernel
theorem dX2_logEnded_26 : decode cX2_logEnded 26 = .ok (.iaload, 1) := by decide +kernel
theorem dX2_logEnded_27 : decode cX2_logEnded 27 = .ok (.invokevirtual 38, 3) := by decide +kernel
theorem dX2_logEnded_30 : decode cX2_logEnded 30 = .ok (.iconst (-1), 1) := by decide +kernel
theorem dX2_logEnded_31 : decode cX2_logEnded 31 = .ok (.if_icmp .ne 29, 3) := by decide +kernel
theorem dX2_logEnded_34 : decode cX2_logEnded 34 = .ok (.aload_n 3, 1) := by decide +kernel
theorem dX2_logEnded_35 : decode cX2_logEnded 35 = .ok (.aload_n 0, 1) := by decide +kernel
theorem dX2_logEnded_36 : decode cX2_logEnded 36 = .ok (.getfield 9, 3) := by decide +kernel
theorem dX2_logEnded_39 : decode cX2_logEnded 39 = .ok (.iload 4, 2) := by decide +kernel
theorem dX2_logEnded_41 : decode cX2_logEnded 41 = .ok (.iaload, 1) := by decide +kernel
theorem dX2_logEnded_42 : decode cX2_logEnded 42 = .ok (.aload_n 0, 1) := by decide +kernel
theorem dX2_logEnded_43 : decode cX2_logEnded 43 = .ok (.getfield 18, 3) := by decide +kernel
theorem dX2_logEnded_46 : decode cX2_logEnded 46 = .ok (.iload 4, 2) := by decide +kernel
theorem dX2_logEnded_48 : decode cX2_logEnded 48 = .ok (.iaload, 1) := by decide +kernel
theorem dX2_logEnded_49 : decode cX2_logEnded 49 = .ok (.aload_n 0, 1) := by decide +kernel
theorem dX2_logEnded_50 : decode cX2_logEnded 50 = .ok (.getfield 21, 3) := by decide +kernel
theorem dX2_logEnded_53 : decode cX2_logEnded 53 = .ok (.iload 4, 2) := by decide +kernel
theorem dX2_logEnded_55 : decode cX2_logEnded 55 = .ok (.iaload, 1) := by decide +kernel
theorem dX2_logEnded_56 : decode cX2_logEnded 56 = .ok (.iload_n 2, 1) := by decide +kernel
theorem dX2_logEnded_57 : decode cX2_logEnded 57 = .ok (.invokevirtual 42, 3) := by decide +kernel
theorem dX2_logEnded_60 : decode cX2_logEnded 60 = .ok (.iinc 4 1, 3) := by decide +kernel
theorem dX2_logEnded_63 : decode cX2_logEnded 63 = .ok (.goto (-60), 3) := by decide +kernel
theorem dX2_logEnded_66 : decode cX2_logEnded 66 = .ok (.return_, 1) := by decide +kernel
theorem dX2_countSilenced_0 : decode cX2_countSilenced 0 = .ok (.iconst 0, 1) := by decide +kernel
theorem dX2_countSilenced_1 : decode cX2_countSilenced 1 = .ok (.istore_n 2, 1) := by decide +kernel
theorem dX2_countSilenced_2 : decode cX2_countSilenced 2 = .ok (.iconst 0, 1) := by decide +kernel
theorem dX2_countSilenced_3 : decode cX2_countSilenced 3 = .ok (.istore_n 3, 1) := by decide +kernel
theorem dX2_countSilenced_4 : decode cX2_countSilenced 4 = .ok (.iload_n 3, 1) := by decide +kernel
theorem dX2_countSilenced_5 : decode cX2_countSilenced 5 = .ok (.aload_n 0, 1) := by decide +kernel
theorem dX2_countSilenced_6 : decode cX2_countSilenced 6 = .ok (.getfield 30, 3) := by decide +kernel
theorem dX2_countSilenced_9 : decode cX2_countSilenced 9 = .ok (.if_icmp .ge 21, 3) := by decide +kernel
theorem dX2_countSilenced_12 : decode cX2_countSilenced 12 = .ok (.aload_n 0, 1) := by decide +kernel
theorem dX2_countSilenced_13 : decode cX2_countSilenced 13 = .ok (.iload_n 3, 1) := by decide +kernel
theorem dX2_countSilenced_14 : decode cX2_countSilenced 14 = .ok (.iload_n 1, 1) := by decide +kernel
theorem dX2_countSilenced_15 : decode cX2_countSilenced 15 = .ok (.invokevirtual 34, 3) := by decide +kernel
