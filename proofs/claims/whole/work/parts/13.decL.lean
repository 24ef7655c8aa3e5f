/-! decode rows -/
theorem bd_129_0 : decode (bn_b 129) 0 = .ok (.iload_n 0, 1) := by decide +kernel
theorem bd_129_1 : decode (bn_b 129) 1 = .ok (.iload_n 0, 1) := by decide +kernel
theorem bd_129_2 : decode (bn_b 129) 2 = .ok (.iconst 1, 1) := by decide +kernel
theorem bd_129_3 : decode (bn_b 129) 3 = .ok (.iushr, 1) := by decide +kernel
theorem bd_129_4 : decode (bn_b 129) 4 = .ok (.ldc_w 265, 3) := by decide +kernel
theorem bd_129_7 : decode (bn_b 129) 7 = .ok (.iand, 1) := by decide +kernel
theorem bd_129_8 : decode (bn_b 129) 8 = .ok (.isub, 1) := by decide +kernel
theorem bd_129_9 : decode (bn_b 129) 9 = .ok (.istore_n 0, 1) := by decide +kernel
theorem bd_129_10 : decode (bn_b 129) 10 = .ok (.iload_n 0, 1) := by decide +kernel
theorem bd_129_11 : decode (bn_b 129) 11 = .ok (.ldc_w 266, 3) := by decide +kernel
theorem bd_129_14 : decode (bn_b 129) 14 = .ok (.iand, 1) := by decide +kernel
theorem bd_129_15 : decode (bn_b 129) 15 = .ok (.iload_n 0, 1) := by decide +kernel
theorem bd_129_16 : decode (bn_b 129) 16 = .ok (.iconst 2, 1) := by decide +kernel
theorem bd_129_17 : decode (bn_b 129) 17 = .ok (.iushr, 1) := by decide +kernel
theorem bd_129_18 : decode (bn_b 129) 18 = .ok (.ldc_w 266, 3) := by decide +kernel
theorem bd_129_21 : decode (bn_b 129) 21 = .ok (.iand, 1) := by decide +kernel
theorem bd_129_22 : decode (bn_b 129) 22 = .ok (.iadd, 1) := by decide +kernel
theorem bd_129_23 : decode (bn_b 129) 23 = .ok (.istore_n 0, 1) := by decide +kernel
theorem bd_129_24 : decode (bn_b 129) 24 = .ok (.iload_n 0, 1) := by decide +kernel
theorem bd_129_25 : decode (bn_b 129) 25 = .ok (.iload_n 0, 1) := by decide +kernel
theorem bd_129_26 : decode (bn_b 129) 26 = .ok (.iconst 4, 1) := by decide +kernel
theorem bd_129_27 : decode (bn_b 129) 27 = .ok (.iushr, 1) := by decide +kernel
theorem bd_129_28 : decode (bn_b 129) 28 = .ok (.iadd, 1) := by decide +kernel
theorem bd_129_29 : decode (bn_b 129) 29 = .ok (.ldc_w 267, 3) := by decide +kernel
theorem bd_129_32 : decode (bn_b 129) 32 = .ok (.iand, 1) := by decide +kernel
theorem bd_129_33 : decode (bn_b 129) 33 = .ok (.istore_n 0, 1) := by decide +kernel
theorem bd_129_34 : decode (bn_b 129) 34 = .ok (.iload_n 0, 1) := by decide +kernel
theorem bd_129_35 : decode (bn_b 129) 35 = .ok (.iload_n 0, 1) := by decide +kernel
theorem bd_129_36 : decode (bn_b 129) 36 = .ok (.bipush 8, 2) := by decide +kernel
theorem bd_129_38 : decode (bn_b 129) 38 = .ok (.iushr, 1) := by decide +kernel
theorem bd_129_39 : decode (bn_b 129) 39 = .ok (.iadd, 1) := by decide +kernel
theorem bd_129_40 : decode (bn_b 129) 40 = .ok (.istore_n 0, 1) := by decide +kernel
theorem bd_129_41 : decode (bn_b 129) 41 = .ok (.iload_n 0, 1) := by decide +kernel
theorem bd_129_42 : decode (bn_b 129) 42 = .ok (.iload_n 0, 1) := by decide +kernel
theorem bd_129_43 : decode (bn_b 129) 43 = .ok (.bipush 16, 2) := by decide +kernel
theorem bd_129_45 : decode (bn_b 129) 45 = .ok (.iushr, 1) := by decide +kernel
theorem bd_129_46 : decode (bn_b 129) 46 = .ok (.iadd, 1) := by decide +kernel
theorem bd_129_47 : decode (bn_b 129) 47 = .ok (.istore_n 0, 1) := by decide +kernel
theorem bd_129_48 : decode (bn_b 129) 48 = .ok (.iload_n 0, 1) := by decide +kernel
theorem bd_129_49 : decode (bn_b 129) 49 = .ok (.bipush 63, 2) := by decide +kernel
theorem bd_129_51 : decode (bn_b 129) 51 = .ok (.iand, 1) := by decide +kernel
theorem bd_129_52 : decode (bn_b 129) 52 = .ok (.ireturn, 1) := by decide +kernel
theorem bd_132_0 : decode (bn_b 132) 0 = .ok (.new 7, 3) := by decide +kernel
theorem bd_132_3 : decode (bn_b 132) 3 = .ok (.dup, 1) := by decide +kernel
theorem bd_132_4 : decode (bn_b 132) 4 = .ok (.invokespecial 9, 3) := by decide +kernel
theorem bd_132_7 : decode (bn_b 132) 7 = .ok (.astore_n 1, 1) := by decide +kernel
theorem bd_132_8 : decode (bn_b 132) 8 = .ok (.new 10, 3) := by decide +kernel
theorem bd_132_11 : decode (bn_b 132) 11 = .ok (.dup, 1) := by decide +kernel
theorem bd_132_12 : decode (bn_b 132) 12 = .ok (.invokespecial 12, 3) := by decide +kernel
theorem bd_132_15 : decode (bn_b 132) 15 = .ok (.astore_n 2, 1) := by decide +kernel
theorem bd_132_16 : decode (bn_b 132) 16 = .ok (.iconst 0, 1) := by decide +kernel
theorem bd_132_17 : decode (bn_b 132) 17 = .ok (.istore_n 3, 1) := by decide +kernel
theorem bd_132_18 : decode (bn_b 132) 18 = .ok (.iload_n 3, 1) := by decide +kernel
theorem bd_132_19 : decode (bn_b 132) 19 = .ok (.aload_n 0, 1) := by decide +kernel
theorem bd_132_20 : decode (bn_b 132) 20 = .ok (.arraylength, 1) := by decide +kernel
theorem bd_132_21 : decode (bn_b 132) 21 = .ok (.iconst 5, 1) := by decide +kernel
theorem bd_132_22 : decode (bn_b 132) 22 = .ok (.isub, 1) := by decide +kernel
theorem bd_132_23 : decode (bn_b 132) 23 = .ok (.if_icmp .gt 756, 3) := by decide +kernel
theorem bd_132_26 : decode (bn_b 132) 26 = .ok (.aload_n 0, 1) := by decide +kernel
theorem bd_132_27 : decode (bn_b 132) 27 = .ok (.iload_n 3, 1) := by decide +kernel
theorem bd_132_28 : decode (bn_b 132) 28 = .ok (.iaload, 1) := by decide +kernel
theorem bd_132_29 : decode (bn_b 132) 29 = .ok (.bipush 31, 2) := by decide +kernel
theorem bd_132_31 : decode (bn_b 132) 31 = .ok (.iand, 1) := by decide +kernel
theorem bd_132_32 : decode (bn_b 132) 32 = .ok (.tableswitch 741 0 22 #[108, 171, 184, 197, 210, 243, 276, 309, 342, 375, 398, 411, 424, 437, 491, 504, 517, 530, 553, 622, 672, 695, 718], 108) := by decide +kernel
theorem bd_132_140 : decode (bn_b 132) 140 = .ok (.aload_n 1, 1) := by decide +kernel
theorem bd_132_141 : decode (bn_b 132) 141 = .ok (.aload_n 0, 1) := by decide +kernel
theorem bd_132_142 : decode (bn_b 132) 142 = .ok (.iload_n 3, 1) := by decide +kernel
theorem bd_132_143 : decode (bn_b 132) 143 = .ok (.iconst 1, 1) := by decide +kernel
theorem bd_132_144 : decode (bn_b 132) 144 = .ok (.iadd, 1) := by decide +kernel
theorem bd_132_145 : decode (bn_b 132) 145 = .ok (.iaload, 1) := by decide +kernel
theorem bd_132_146 : decode (bn_b 132) 146 = .ok (.aload_n 0, 1) := by decide +kernel
theorem bd_132_147 : decode (bn_b 132) 147 = .ok (.iload_n 3, 1) := by decide +kernel
theorem bd_132_148 : decode (bn_b 132) 148 = .ok (.iconst 2, 1) := by decide +kernel
theorem bd_132_149 : decode (bn_b 132) 149 = .ok (.iadd, 1) := by decide +kernel
theorem bd_132_150 : decode (bn_b 132) 150 = .ok (.iaload, 1) := by decide +kernel
theorem bd_132_151 : decode (bn_b 132) 151 = .ok (.i2l, 1) := by decide +kernel
theorem bd_132_152 : decode (bn_b 132) 152 = .ok (.bipush 32, 2) := by decide +kernel
theorem bd_132_154 : decode (bn_b 132) 154 = .ok (.lshl, 1) := by decide +kernel
theorem bd_132_155 : decode (bn_b 132) 155 = .ok (.aload_n 0, 1) := by decide +kernel
theorem bd_132_156 : decode (bn_b 132) 156 = .ok (.iload_n 3, 1) := by decide +kernel
theorem bd_132_157 : decode (bn_b 132) 157 = .ok (.iconst 3, 1) := by decide +kernel
theorem bd_132_158 : decode (bn_b 132) 158 = .ok (.iadd, 1) := by decide +kernel
theorem bd_132_159 : decode (bn_b 132) 159 = .ok (.iaload, 1) := by decide +kernel
theorem bd_132_160 : decode (bn_b 132) 160 = .ok (.i2l, 1) := by decide +kernel
theorem bd_132_161 : decode (bn_b 132) 161 = .ok (.ldc2_w 13, 3) := by decide +kernel
theorem bd_132_164 : decode (bn_b 132) 164 = .ok (.land, 1) := by decide +kernel
theorem bd_132_165 : decode (bn_b 132) 165 = .ok (.lor, 1) := by decide +kernel
theorem bd_132_166 : decode (bn_b 132) 166 = .ok (.invokevirtual 15, 3) := by decide +kernel
theorem bd_132_169 : decode (bn_b 132) 169 = .ok (.aload_n 2, 1) := by decide +kernel
theorem bd_132_170 : decode (bn_b 132) 170 = .ok (.aload_n 0, 1) := by decide +kernel
theorem bd_132_171 : decode (bn_b 132) 171 = .ok (.iload_n 3, 1) := by decide +kernel
theorem bd_132_172 : decode (bn_b 132) 172 = .ok (.iconst 1, 1) := by decide +kernel
theorem bd_132_173 : decode (bn_b 132) 173 = .ok (.iadd, 1) := by decide +kernel
theorem bd_132_174 : decode (bn_b 132) 174 = .ok (.iaload, 1) := by decide +kernel
theorem bd_132_175 : decode (bn_b 132) 175 = .ok (.aload_n 0, 1) := by decide +kernel
theorem bd_132_176 : decode (bn_b 132) 176 = .ok (.iload_n 3, 1) := by decide +kernel
theorem bd_132_177 : decode (bn_b 132) 177 = .ok (.iconst 2, 1) := by decide +kernel
theorem bd_132_178 : decode (bn_b 132) 178 = .ok (.iadd, 1) := by decide +kernel
theorem bd_132_179 : decode (bn_b 132) 179 = .ok (.iaload, 1) := by decide +kernel
theorem bd_132_180 : decode (bn_b 132) 180 = .ok (.i2l, 1) := by decide +kernel
theorem bd_132_181 : decode (bn_b 132) 181 = .ok (.bipush 32, 2) := by decide +kernel
theorem bd_132_183 : decode (bn_b 132) 183 = .ok (.lshl, 1) := by decide +kernel
theorem bd_132_184 : decode (bn_b 132) 184 = .ok (.aload_n 0, 1) := by decide +kernel
theorem bd_132_185 : decode (bn_b 132) 185 = .ok (.iload_n 3, 1) := by decide +kernel
theorem bd_132_186 : decode (bn_b 132) 186 = .ok (.iconst 3, 1) := by decide +kernel
theorem bd_132_187 : decode (bn_b 132) 187 = .ok (.iadd, 1) := by decide +kernel
theorem bd_132_188 : decode (bn_b 132) 188 = .ok (.iaload, 1) := by decide +kernel
theorem bd_132_189 : decode (bn_b 132) 189 = .ok (.i2l, 1) := by decide +kernel
theorem bd_132_190 : decode (bn_b 132) 190 = .ok (.ldc2_w 13, 3) := by decide +kernel
theorem bd_132_193 : decode (bn_b 132) 193 = .ok (.land, 1) := by decide +kernel
theorem bd_132_194 : decode (bn_b 132) 194 = .ok (.lor, 1) := by decide +kernel
theorem bd_132_195 : decode (bn_b 132) 195 = .ok (.invokevirtual 19, 3) := by decide +kernel
theorem bd_132_198 : decode (bn_b 132) 198 = .ok (.if_icmp .eq 575, 3) := by decide +kernel
theorem bd_132_201 : decode (bn_b 132) 201 = .ok (.iconst 0, 1) := by decide +kernel
theorem bd_132_202 : decode (bn_b 132) 202 = .ok (.ireturn, 1) := by decide +kernel
theorem bd_132_203 : decode (bn_b 132) 203 = .ok (.aload_n 1, 1) := by decide +kernel
theorem bd_132_204 : decode (bn_b 132) 204 = .ok (.invokevirtual 20, 3) := by decide +kernel
theorem bd_132_207 : decode (bn_b 132) 207 = .ok (.aload_n 2, 1) := by decide +kernel
theorem bd_132_208 : decode (bn_b 132) 208 = .ok (.invokevirtual 24, 3) := by decide +kernel
theorem bd_132_211 : decode (bn_b 132) 211 = .ok (.if_icmp .eq 562, 3) := by decide +kernel
theorem bd_132_214 : decode (bn_b 132) 214 = .ok (.iconst 0, 1) := by decide +kernel
theorem bd_132_215 : decode (bn_b 132) 215 = .ok (.ireturn, 1) := by decide +kernel
theorem bd_132_216 : decode (bn_b 132) 216 = .ok (.aload_n 1, 1) := by decide +kernel
theorem bd_132_217 : decode (bn_b 132) 217 = .ok (.invokevirtual 25, 3) := by decide +kernel
theorem bd_132_220 : decode (bn_b 132) 220 = .ok (.aload_n 2, 1) := by decide +kernel
theorem bd_132_221 : decode (bn_b 132) 221 = .ok (.invokevirtual 28, 3) := by decide +kernel
theorem bd_132_224 : decode (bn_b 132) 224 = .ok (.if_icmp .eq 549, 3) := by decide +kernel
theorem bd_132_227 : decode (bn_b 132) 227 = .ok (.iconst 0, 1) := by decide +kernel
theorem bd_132_228 : decode (bn_b 132) 228 = .ok (.ireturn, 1) := by decide +kernel
theorem bd_132_229 : decode (bn_b 132) 229 = .ok (.aload_n 1, 1) := by decide +kernel
theorem bd_132_230 : decode (bn_b 132) 230 = .ok (.invokevirtual 29, 3) := by decide +kernel
theorem bd_132_233 : decode (bn_b 132) 233 = .ok (.aload_n 2, 1) := by decide +kernel
theorem bd_132_234 : decode (bn_b 132) 234 = .ok (.invokevirtual 32, 3) := by decide +kernel
theorem bd_132_237 : decode (bn_b 132) 237 = .ok (.if_icmp .eq 536, 3) := by decide +kernel
theorem bd_132_240 : decode (bn_b 132) 240 = .ok (.iconst 0, 1) := by decide +kernel
theorem bd_132_241 : decode (bn_b 132) 241 = .ok (.ireturn, 1) := by decide +kernel
theorem bd_132_242 : decode (bn_b 132) 242 = .ok (.aload_n 1, 1) := by decide +kernel
theorem bd_132_243 : decode (bn_b 132) 243 = .ok (.aload_n 0, 1) := by decide +kernel
theorem bd_132_244 : decode (bn_b 132) 244 = .ok (.iload_n 3, 1) := by decide +kernel
theorem bd_132_245 : decode (bn_b 132) 245 = .ok (.iconst 1, 1) := by decide +kernel
theorem bd_132_246 : decode (bn_b 132) 246 = .ok (.iadd, 1) := by decide +kernel
theorem bd_132_247 : decode (bn_b 132) 247 = .ok (.iaload, 1) := by decide +kernel
theorem bd_132_248 : decode (bn_b 132) 248 = .ok (.aload_n 0, 1) := by decide +kernel
theorem bd_132_249 : decode (bn_b 132) 249 = .ok (.iload_n 3, 1) := by decide +kernel
theorem bd_132_250 : decode (bn_b 132) 250 = .ok (.iconst 2, 1) := by decide +kernel
theorem bd_132_251 : decode (bn_b 132) 251 = .ok (.iadd, 1) := by decide +kernel
theorem bd_132_252 : decode (bn_b 132) 252 = .ok (.iaload, 1) := by decide +kernel
theorem bd_132_253 : decode (bn_b 132) 253 = .ok (.invokevirtual 33, 3) := by decide +kernel
theorem bd_132_256 : decode (bn_b 132) 256 = .ok (.aload_n 2, 1) := by decide +kernel
theorem bd_132_257 : decode (bn_b 132) 257 = .ok (.aload_n 0, 1) := by decide +kernel
theorem bd_132_258 : decode (bn_b 132) 258 = .ok (.iload_n 3, 1) := by decide +kernel
theorem bd_132_259 : decode (bn_b 132) 259 = .ok (.iconst 1, 1) := by decide +kernel
theorem bd_132_260 : decode (bn_b 132) 260 = .ok (.iadd, 1) := by decide +kernel
theorem bd_132_261 : decode (bn_b 132) 261 = .ok (.iaload, 1) := by decide +kernel
theorem bd_132_262 : decode (bn_b 132) 262 = .ok (.aload_n 0, 1) := by decide +kernel
theorem bd_132_263 : decode (bn_b 132) 263 = .ok (.iload_n 3, 1) := by decide +kernel
theorem bd_132_264 : decode (bn_b 132) 264 = .ok (.iconst 2, 1) := by decide +kernel
theorem bd_132_265 : decode (bn_b 132) 265 = .ok (.iadd, 1) := by decide +kernel
theorem bd_132_266 : decode (bn_b 132) 266 = .ok (.iaload, 1) := by decide +kernel
theorem bd_132_267 : decode (bn_b 132) 267 = .ok (.invokevirtual 37, 3) := by decide +kernel
theorem bd_132_270 : decode (bn_b 132) 270 = .ok (.if_icmp .eq 503, 3) := by decide +kernel
theorem bd_132_273 : decode (bn_b 132) 273 = .ok (.iconst 0, 1) := by decide +kernel
theorem bd_132_274 : decode (bn_b 132) 274 = .ok (.ireturn, 1) := by decide +kernel
theorem bd_132_275 : decode (bn_b 132) 275 = .ok (.aload_n 1, 1) := by decide +kernel
theorem bd_132_276 : decode (bn_b 132) 276 = .ok (.aload_n 0, 1) := by decide +kernel
theorem bd_132_277 : decode (bn_b 132) 277 = .ok (.iload_n 3, 1) := by decide +kernel
theorem bd_132_278 : decode (bn_b 132) 278 = .ok (.iconst 1, 1) := by decide +kernel
theorem bd_132_279 : decode (bn_b 132) 279 = .ok (.iadd, 1) := by decide +kernel
theorem bd_132_280 : decode (bn_b 132) 280 = .ok (.iaload, 1) := by decide +kernel
theorem bd_132_281 : decode (bn_b 132) 281 = .ok (.aload_n 0, 1) := by decide +kernel
theorem bd_132_282 : decode (bn_b 132) 282 = .ok (.iload_n 3, 1) := by decide +kernel
theorem bd_132_283 : decode (bn_b 132) 283 = .ok (.iconst 2, 1) := by decide +kernel
theorem bd_132_284 : decode (bn_b 132) 284 = .ok (.iadd, 1) := by decide +kernel
theorem bd_132_285 : decode (bn_b 132) 285 = .ok (.iaload, 1) := by decide +kernel
theorem bd_132_286 : decode (bn_b 132) 286 = .ok (.invokevirtual 38, 3) := by decide +kernel
theorem bd_132_289 : decode (bn_b 132) 289 = .ok (.aload_n 2, 1) := by decide +kernel
theorem bd_132_290 : decode (bn_b 132) 290 = .ok (.aload_n 0, 1) := by decide +kernel
theorem bd_132_291 : decode (bn_b 132) 291 = .ok (.iload_n 3, 1) := by decide +kernel
theorem bd_132_292 : decode (bn_b 132) 292 = .ok (.iconst 1, 1) := by decide +kernel
theorem bd_132_293 : decode (bn_b 132) 293 = .ok (.iadd, 1) := by decide +kernel
theorem bd_132_294 : decode (bn_b 132) 294 = .ok (.iaload, 1) := by decide +kernel
theorem bd_132_295 : decode (bn_b 132) 295 = .ok (.aload_n 0, 1) := by decide +kernel
theorem bd_132_296 : decode (bn_b 132) 296 = .ok (.iload_n 3, 1) := by decide +kernel
theorem bd_132_297 : decode (bn_b 132) 297 = .ok (.iconst 2, 1) := by decide +kernel
theorem bd_132_298 : decode (bn_b 132) 298 = .ok (.iadd, 1) := by decide +kernel
theorem bd_132_299 : decode (bn_b 132) 299 = .ok (.iaload, 1) := by decide +kernel
theorem bd_132_300 : decode (bn_b 132) 300 = .ok (.invokevirtual 41, 3) := by decide +kernel
theorem bd_132_303 : decode (bn_b 132) 303 = .ok (.if_icmp .eq 470, 3) := by decide +kernel
theorem bd_132_306 : decode (bn_b 132) 306 = .ok (.iconst 0, 1) := by decide +kernel
theorem bd_132_307 : decode (bn_b 132) 307 = .ok (.ireturn, 1) := by decide +kernel
theorem bd_132_308 : decode (bn_b 132) 308 = .ok (.aload_n 1, 1) := by decide +kernel
theorem bd_132_309 : decode (bn_b 132) 309 = .ok (.aload_n 0, 1) := by decide +kernel
theorem bd_132_310 : decode (bn_b 132) 310 = .ok (.iload_n 3, 1) := by decide +kernel
theorem bd_132_311 : decode (bn_b 132) 311 = .ok (.iconst 1, 1) := by decide +kernel
theorem bd_132_312 : decode (bn_b 132) 312 = .ok (.iadd, 1) := by decide +kernel
theorem bd_132_313 : decode (bn_b 132) 313 = .ok (.iaload, 1) := by decide +kernel
theorem bd_132_314 : decode (bn_b 132) 314 = .ok (.aload_n 0, 1) := by decide +kernel
theorem bd_132_315 : decode (bn_b 132) 315 = .ok (.iload_n 3, 1) := by decide +kernel
theorem bd_132_316 : decode (bn_b 132) 316 = .ok (.iconst 2, 1) := by decide +kernel
theorem bd_132_317 : decode (bn_b 132) 317 = .ok (.iadd, 1) := by decide +kernel
theorem bd_132_318 : decode (bn_b 132) 318 = .ok (.iaload, 1) := by decide +kernel
theorem bd_132_319 : decode (bn_b 132) 319 = .ok (.invokevirtual 42, 3) := by decide +kernel
theorem bd_132_322 : decode (bn_b 132) 322 = .ok (.aload_n 2, 1) := by decide +kernel
theorem bd_132_323 : decode (bn_b 132) 323 = .ok (.aload_n 0, 1) := by decide +kernel
theorem bd_132_324 : decode (bn_b 132) 324 = .ok (.iload_n 3, 1) := by decide +kernel
theorem bd_132_325 : decode (bn_b 132) 325 = .ok (.iconst 1, 1) := by decide +kernel
theorem bd_132_326 : decode (bn_b 132) 326 = .ok (.iadd, 1) := by decide +kernel
theorem bd_132_327 : decode (bn_b 132) 327 = .ok (.iaload, 1) := by decide +kernel
theorem bd_132_328 : decode (bn_b 132) 328 = .ok (.aload_n 0, 1) := by decide +kernel
theorem bd_132_329 : decode (bn_b 132) 329 = .ok (.iload_n 3, 1) := by decide +kernel
theorem bd_132_330 : decode (bn_b 132) 330 = .ok (.iconst 2, 1) := by decide +kernel
theorem bd_132_331 : decode (bn_b 132) 331 = .ok (.iadd, 1) := by decide +kernel
theorem bd_132_332 : decode (bn_b 132) 332 = .ok (.iaload, 1) := by decide +kernel
theorem bd_132_333 : decode (bn_b 132) 333 = .ok (.invokevirtual 45, 3) := by decide +kernel
theorem bd_132_336 : decode (bn_b 132) 336 = .ok (.if_icmp .eq 437, 3) := by decide +kernel
theorem bd_132_339 : decode (bn_b 132) 339 = .ok (.iconst 0, 1) := by decide +kernel
theorem bd_132_340 : decode (bn_b 132) 340 = .ok (.ireturn, 1) := by decide +kernel
theorem bd_132_341 : decode (bn_b 132) 341 = .ok (.aload_n 1, 1) := by decide +kernel
theorem bd_132_342 : decode (bn_b 132) 342 = .ok (.aload_n 0, 1) := by decide +kernel
theorem bd_132_343 : decode (bn_b 132) 343 = .ok (.iload_n 3, 1) := by decide +kernel
theorem bd_132_344 : decode (bn_b 132) 344 = .ok (.iconst 1, 1) := by decide +kernel
theorem bd_132_345 : decode (bn_b 132) 345 = .ok (.iadd, 1) := by decide +kernel
theorem bd_132_346 : decode (bn_b 132) 346 = .ok (.iaload, 1) := by decide +kernel
theorem bd_132_347 : decode (bn_b 132) 347 = .ok (.aload_n 0, 1) := by decide +kernel
theorem bd_132_348 : decode (bn_b 132) 348 = .ok (.iload_n 3, 1) := by decide +kernel
theorem bd_132_349 : decode (bn_b 132) 349 = .ok (.iconst 2, 1) := by decide +kernel
theorem bd_132_350 : decode (bn_b 132) 350 = .ok (.iadd, 1) := by decide +kernel
theorem bd_132_351 : decode (bn_b 132) 351 = .ok (.iaload, 1) := by decide +kernel
theorem bd_132_352 : decode (bn_b 132) 352 = .ok (.invokevirtual 46, 3) := by decide +kernel
theorem bd_132_355 : decode (bn_b 132) 355 = .ok (.aload_n 2, 1) := by decide +kernel
theorem bd_132_356 : decode (bn_b 132) 356 = .ok (.aload_n 0, 1) := by decide +kernel
theorem bd_132_357 : decode (bn_b 132) 357 = .ok (.iload_n 3, 1) := by decide +kernel
theorem bd_132_358 : decode (bn_b 132) 358 = .ok (.iconst 1, 1) := by decide +kernel
theorem bd_132_359 : decode (bn_b 132) 359 = .ok (.iadd, 1) := by decide +kernel
theorem bd_132_360 : decode (bn_b 132) 360 = .ok (.iaload, 1) := by decide +kernel
theorem bd_132_361 : decode (bn_b 132) 361 = .ok (.aload_n 0, 1) := by decide +kernel
theorem bd_132_362 : decode (bn_b 132) 362 = .ok (.iload_n 3, 1) := by decide +kernel
theorem bd_132_363 : decode (bn_b 132) 363 = .ok (.iconst 2, 1) := by decide +kernel
theorem bd_132_364 : decode (bn_b 132) 364 = .ok (.iadd, 1) := by decide +kernel
theorem bd_132_365 : decode (bn_b 132) 365 = .ok (.iaload, 1) := by decide +kernel
theorem bd_132_366 : decode (bn_b 132) 366 = .ok (.invokevirtual 49, 3) := by decide +kernel
theorem bd_132_369 : decode (bn_b 132) 369 = .ok (.if_icmp .eq 404, 3) := by decide +kernel
theorem bd_132_372 : decode (bn_b 132) 372 = .ok (.iconst 0, 1) := by decide +kernel
theorem bd_132_373 : decode (bn_b 132) 373 = .ok (.ireturn, 1) := by decide +kernel
theorem bd_132_374 : decode (bn_b 132) 374 = .ok (.aload_n 1, 1) := by decide +kernel
theorem bd_132_375 : decode (bn_b 132) 375 = .ok (.aload_n 0, 1) := by decide +kernel
theorem bd_132_376 : decode (bn_b 132) 376 = .ok (.iload_n 3, 1) := by decide +kernel
theorem bd_132_377 : decode (bn_b 132) 377 = .ok (.iconst 1, 1) := by decide +kernel
theorem bd_132_378 : decode (bn_b 132) 378 = .ok (.iadd, 1) := by decide +kernel
theorem bd_132_379 : decode (bn_b 132) 379 = .ok (.iaload, 1) := by decide +kernel
theorem bd_132_380 : decode (bn_b 132) 380 = .ok (.aload_n 0, 1) := by decide +kernel
theorem bd_132_381 : decode (bn_b 132) 381 = .ok (.iload_n 3, 1) := by decide +kernel
theorem bd_132_382 : decode (bn_b 132) 382 = .ok (.iconst 2, 1) := by decide +kernel
theorem bd_132_383 : decode (bn_b 132) 383 = .ok (.iadd, 1) := by decide +kernel
theorem bd_132_384 : decode (bn_b 132) 384 = .ok (.iaload, 1) := by decide +kernel
theorem bd_132_385 : decode (bn_b 132) 385 = .ok (.invokevirtual 50, 3) := by decide +kernel
theorem bd_132_388 : decode (bn_b 132) 388 = .ok (.aload_n 2, 1) := by decide +kernel
theorem bd_132_389 : decode (bn_b 132) 389 = .ok (.aload_n 0, 1) := by decide +kernel
theorem bd_132_390 : decode (bn_b 132) 390 = .ok (.iload_n 3, 1) := by decide +kernel
theorem bd_132_391 : decode (bn_b 132) 391 = .ok (.iconst 1, 1) := by decide +kernel
theorem bd_132_392 : decode (bn_b 132) 392 = .ok (.iadd, 1) := by decide +kernel
theorem bd_132_393 : decode (bn_b 132) 393 = .ok (.iaload, 1) := by decide +kernel
theorem bd_132_394 : decode (bn_b 132) 394 = .ok (.aload_n 0, 1) := by decide +kernel
theorem bd_132_395 : decode (bn_b 132) 395 = .ok (.iload_n 3, 1) := by decide +kernel
theorem bd_132_396 : decode (bn_b 132) 396 = .ok (.iconst 2, 1) := by decide +kernel
theorem bd_132_397 : decode (bn_b 132) 397 = .ok (.iadd, 1) := by decide +kernel
theorem bd_132_398 : decode (bn_b 132) 398 = .ok (.iaload, 1) := by decide +kernel
theorem bd_132_399 : decode (bn_b 132) 399 = .ok (.invokevirtual 53, 3) := by decide +kernel
theorem bd_132_402 : decode (bn_b 132) 402 = .ok (.if_icmp .eq 371, 3) := by decide +kernel
theorem bd_132_405 : decode (bn_b 132) 405 = .ok (.iconst 0, 1) := by decide +kernel
theorem bd_132_406 : decode (bn_b 132) 406 = .ok (.ireturn, 1) := by decide +kernel
theorem bd_132_407 : decode (bn_b 132) 407 = .ok (.aload_n 1, 1) := by decide +kernel
theorem bd_132_408 : decode (bn_b 132) 408 = .ok (.aload_n 0, 1) := by decide +kernel
theorem bd_132_409 : decode (bn_b 132) 409 = .ok (.iload_n 3, 1) := by decide +kernel
theorem bd_132_410 : decode (bn_b 132) 410 = .ok (.iconst 1, 1) := by decide +kernel
theorem bd_132_411 : decode (bn_b 132) 411 = .ok (.iadd, 1) := by decide +kernel
theorem bd_132_412 : decode (bn_b 132) 412 = .ok (.iaload, 1) := by decide +kernel
theorem bd_132_413 : decode (bn_b 132) 413 = .ok (.invokevirtual 54, 3) := by decide +kernel
theorem bd_132_416 : decode (bn_b 132) 416 = .ok (.aload_n 2, 1) := by decide +kernel
theorem bd_132_417 : decode (bn_b 132) 417 = .ok (.aload_n 0, 1) := by decide +kernel
theorem bd_132_418 : decode (bn_b 132) 418 = .ok (.iload_n 3, 1) := by decide +kernel
theorem bd_132_419 : decode (bn_b 132) 419 = .ok (.iconst 1, 1) := by decide +kernel
theorem bd_132_420 : decode (bn_b 132) 420 = .ok (.iadd, 1) := by decide +kernel
theorem bd_132_421 : decode (bn_b 132) 421 = .ok (.iaload, 1) := by decide +kernel
theorem bd_132_422 : decode (bn_b 132) 422 = .ok (.invokevirtual 58, 3) := by decide +kernel
theorem bd_132_425 : decode (bn_b 132) 425 = .ok (.if_icmp .eq 348, 3) := by decide +kernel
theorem bd_132_428 : decode (bn_b 132) 428 = .ok (.iconst 0, 1) := by decide +kernel
theorem bd_132_429 : decode (bn_b 132) 429 = .ok (.ireturn, 1) := by decide +kernel
theorem bd_132_430 : decode (bn_b 132) 430 = .ok (.aload_n 1, 1) := by decide +kernel
theorem bd_132_431 : decode (bn_b 132) 431 = .ok (.invokevirtual 59, 3) := by decide +kernel
theorem bd_132_434 : decode (bn_b 132) 434 = .ok (.aload_n 2, 1) := by decide +kernel
theorem bd_132_435 : decode (bn_b 132) 435 = .ok (.invokevirtual 62, 3) := by decide +kernel
theorem bd_132_438 : decode (bn_b 132) 438 = .ok (.if_icmp .eq 335, 3) := by decide +kernel
theorem bd_132_441 : decode (bn_b 132) 441 = .ok (.iconst 0, 1) := by decide +kernel
theorem bd_132_442 : decode (bn_b 132) 442 = .ok (.ireturn, 1) := by decide +kernel
theorem bd_132_443 : decode (bn_b 132) 443 = .ok (.aload_n 1, 1) := by decide +kernel
theorem bd_132_444 : decode (bn_b 132) 444 = .ok (.invokevirtual 63, 3) := by decide +kernel
theorem bd_132_447 : decode (bn_b 132) 447 = .ok (.aload_n 2, 1) := by decide +kernel
theorem bd_132_448 : decode (bn_b 132) 448 = .ok (.invokevirtual 66, 3) := by decide +kernel
theorem bd_132_451 : decode (bn_b 132) 451 = .ok (.if_icmp .eq 322, 3) := by decide +kernel
theorem bd_132_454 : decode (bn_b 132) 454 = .ok (.iconst 0, 1) := by decide +kernel
theorem bd_132_455 : decode (bn_b 132) 455 = .ok (.ireturn, 1) := by decide +kernel
theorem bd_132_456 : decode (bn_b 132) 456 = .ok (.aload_n 1, 1) := by decide +kernel
theorem bd_132_457 : decode (bn_b 132) 457 = .ok (.invokevirtual 67, 3) := by decide +kernel
theorem bd_132_460 : decode (bn_b 132) 460 = .ok (.aload_n 2, 1) := by decide +kernel
theorem bd_132_461 : decode (bn_b 132) 461 = .ok (.invokevirtual 70, 3) := by decide +kernel
theorem bd_132_464 : decode (bn_b 132) 464 = .ok (.if_icmp .eq 309, 3) := by decide +kernel
theorem bd_132_467 : decode (bn_b 132) 467 = .ok (.iconst 0, 1) := by decide +kernel
theorem bd_132_468 : decode (bn_b 132) 468 = .ok (.ireturn, 1) := by decide +kernel
theorem bd_132_469 : decode (bn_b 132) 469 = .ok (.aload_n 1, 1) := by decide +kernel
theorem bd_132_470 : decode (bn_b 132) 470 = .ok (.aload_n 0, 1) := by decide +kernel
theorem bd_132_471 : decode (bn_b 132) 471 = .ok (.iload_n 3, 1) := by decide +kernel
theorem bd_132_472 : decode (bn_b 132) 472 = .ok (.iconst 1, 1) := by decide +kernel
theorem bd_132_473 : decode (bn_b 132) 473 = .ok (.iadd, 1) := by decide +kernel
theorem bd_132_474 : decode (bn_b 132) 474 = .ok (.iaload, 1) := by decide +kernel
theorem bd_132_475 : decode (bn_b 132) 475 = .ok (.i2l, 1) := by decide +kernel
theorem bd_132_476 : decode (bn_b 132) 476 = .ok (.bipush 32, 2) := by decide +kernel
theorem bd_132_478 : decode (bn_b 132) 478 = .ok (.lshl, 1) := by decide +kernel
theorem bd_132_479 : decode (bn_b 132) 479 = .ok (.aload_n 0, 1) := by decide +kernel
theorem bd_132_480 : decode (bn_b 132) 480 = .ok (.iload_n 3, 1) := by decide +kernel
theorem bd_132_481 : decode (bn_b 132) 481 = .ok (.iconst 2, 1) := by decide +kernel
theorem bd_132_482 : decode (bn_b 132) 482 = .ok (.iadd, 1) := by decide +kernel
theorem bd_132_483 : decode (bn_b 132) 483 = .ok (.iaload, 1) := by decide +kernel
theorem bd_132_484 : decode (bn_b 132) 484 = .ok (.i2l, 1) := by decide +kernel
theorem bd_132_485 : decode (bn_b 132) 485 = .ok (.ldc2_w 13, 3) := by decide +kernel
theorem bd_132_488 : decode (bn_b 132) 488 = .ok (.land, 1) := by decide +kernel
theorem bd_132_489 : decode (bn_b 132) 489 = .ok (.lor, 1) := by decide +kernel
theorem bd_132_490 : decode (bn_b 132) 490 = .ok (.invokevirtual 71, 3) := by decide +kernel
theorem bd_132_493 : decode (bn_b 132) 493 = .ok (.aload_n 2, 1) := by decide +kernel
theorem bd_132_494 : decode (bn_b 132) 494 = .ok (.aload_n 0, 1) := by decide +kernel
theorem bd_132_495 : decode (bn_b 132) 495 = .ok (.iload_n 3, 1) := by decide +kernel
theorem bd_132_496 : decode (bn_b 132) 496 = .ok (.iconst 1, 1) := by decide +kernel
theorem bd_132_497 : decode (bn_b 132) 497 = .ok (.iadd, 1) := by decide +kernel
theorem bd_132_498 : decode (bn_b 132) 498 = .ok (.iaload, 1) := by decide +kernel
theorem bd_132_499 : decode (bn_b 132) 499 = .ok (.i2l, 1) := by decide +kernel
theorem bd_132_500 : decode (bn_b 132) 500 = .ok (.bipush 32, 2) := by decide +kernel
theorem bd_132_502 : decode (bn_b 132) 502 = .ok (.lshl, 1) := by decide +kernel
theorem bd_132_503 : decode (bn_b 132) 503 = .ok (.aload_n 0, 1) := by decide +kernel
theorem bd_132_504 : decode (bn_b 132) 504 = .ok (.iload_n 3, 1) := by decide +kernel
theorem bd_132_505 : decode (bn_b 132) 505 = .ok (.iconst 2, 1) := by decide +kernel
theorem bd_132_506 : decode (bn_b 132) 506 = .ok (.iadd, 1) := by decide +kernel
theorem bd_132_507 : decode (bn_b 132) 507 = .ok (.iaload, 1) := by decide +kernel
theorem bd_132_508 : decode (bn_b 132) 508 = .ok (.i2l, 1) := by decide +kernel
theorem bd_132_509 : decode (bn_b 132) 509 = .ok (.ldc2_w 13, 3) := by decide +kernel
theorem bd_132_512 : decode (bn_b 132) 512 = .ok (.land, 1) := by decide +kernel
theorem bd_132_513 : decode (bn_b 132) 513 = .ok (.lor, 1) := by decide +kernel
theorem bd_132_514 : decode (bn_b 132) 514 = .ok (.invokevirtual 75, 3) := by decide +kernel
theorem bd_132_517 : decode (bn_b 132) 517 = .ok (.lcmp, 1) := by decide +kernel
theorem bd_132_518 : decode (bn_b 132) 518 = .ok (.ifCond .eq 255, 3) := by decide +kernel
theorem bd_132_521 : decode (bn_b 132) 521 = .ok (.iconst 0, 1) := by decide +kernel
theorem bd_132_522 : decode (bn_b 132) 522 = .ok (.ireturn, 1) := by decide +kernel
theorem bd_132_523 : decode (bn_b 132) 523 = .ok (.aload_n 1, 1) := by decide +kernel
theorem bd_132_524 : decode (bn_b 132) 524 = .ok (.invokevirtual 76, 3) := by decide +kernel
theorem bd_132_527 : decode (bn_b 132) 527 = .ok (.aload_n 2, 1) := by decide +kernel
theorem bd_132_528 : decode (bn_b 132) 528 = .ok (.invokevirtual 79, 3) := by decide +kernel
theorem bd_132_531 : decode (bn_b 132) 531 = .ok (.if_icmp .eq 242, 3) := by decide +kernel
theorem bd_132_534 : decode (bn_b 132) 534 = .ok (.iconst 0, 1) := by decide +kernel
theorem bd_132_535 : decode (bn_b 132) 535 = .ok (.ireturn, 1) := by decide +kernel
theorem bd_132_536 : decode (bn_b 132) 536 = .ok (.aload_n 1, 1) := by decide +kernel
theorem bd_132_537 : decode (bn_b 132) 537 = .ok (.invokevirtual 80, 3) := by decide +kernel
theorem bd_132_540 : decode (bn_b 132) 540 = .ok (.aload_n 2, 1) := by decide +kernel
theorem bd_132_541 : decode (bn_b 132) 541 = .ok (.invokevirtual 83, 3) := by decide +kernel
theorem bd_132_544 : decode (bn_b 132) 544 = .ok (.if_icmp .eq 229, 3) := by decide +kernel
theorem bd_132_547 : decode (bn_b 132) 547 = .ok (.iconst 0, 1) := by decide +kernel
theorem bd_132_548 : decode (bn_b 132) 548 = .ok (.ireturn, 1) := by decide +kernel
theorem bd_132_549 : decode (bn_b 132) 549 = .ok (.aload_n 1, 1) := by decide +kernel
theorem bd_132_550 : decode (bn_b 132) 550 = .ok (.invokevirtual 84, 3) := by decide +kernel
theorem bd_132_553 : decode (bn_b 132) 553 = .ok (.aload_n 2, 1) := by decide +kernel
theorem bd_132_554 : decode (bn_b 132) 554 = .ok (.invokevirtual 87, 3) := by decide +kernel
theorem bd_132_557 : decode (bn_b 132) 557 = .ok (.if_icmp .eq 216, 3) := by decide +kernel
theorem bd_132_560 : decode (bn_b 132) 560 = .ok (.iconst 0, 1) := by decide +kernel
theorem bd_132_561 : decode (bn_b 132) 561 = .ok (.ireturn, 1) := by decide +kernel
theorem bd_132_562 : decode (bn_b 132) 562 = .ok (.aload_n 1, 1) := by decide +kernel
theorem bd_132_563 : decode (bn_b 132) 563 = .ok (.aload_n 0, 1) := by decide +kernel
theorem bd_132_564 : decode (bn_b 132) 564 = .ok (.iload_n 3, 1) := by decide +kernel
theorem bd_132_565 : decode (bn_b 132) 565 = .ok (.iconst 1, 1) := by decide +kernel
theorem bd_132_566 : decode (bn_b 132) 566 = .ok (.iadd, 1) := by decide +kernel
theorem bd_132_567 : decode (bn_b 132) 567 = .ok (.iaload, 1) := by decide +kernel
theorem bd_132_568 : decode (bn_b 132) 568 = .ok (.invokevirtual 88, 3) := by decide +kernel
theorem bd_132_571 : decode (bn_b 132) 571 = .ok (.aload_n 2, 1) := by decide +kernel
theorem bd_132_572 : decode (bn_b 132) 572 = .ok (.aload_n 0, 1) := by decide +kernel
theorem bd_132_573 : decode (bn_b 132) 573 = .ok (.iload_n 3, 1) := by decide +kernel
theorem bd_132_574 : decode (bn_b 132) 574 = .ok (.iconst 1, 1) := by decide +kernel
theorem bd_132_575 : decode (bn_b 132) 575 = .ok (.iadd, 1) := by decide +kernel
theorem bd_132_576 : decode (bn_b 132) 576 = .ok (.iaload, 1) := by decide +kernel
theorem bd_132_577 : decode (bn_b 132) 577 = .ok (.invokevirtual 91, 3) := by decide +kernel
theorem bd_132_580 : decode (bn_b 132) 580 = .ok (.if_icmp .eq 193, 3) := by decide +kernel
theorem bd_132_583 : decode (bn_b 132) 583 = .ok (.iconst 0, 1) := by decide +kernel
theorem bd_132_584 : decode (bn_b 132) 584 = .ok (.ireturn, 1) := by decide +kernel
theorem bd_132_585 : decode (bn_b 132) 585 = .ok (.aload_n 1, 1) := by decide +kernel
theorem bd_132_586 : decode (bn_b 132) 586 = .ok (.aload_n 0, 1) := by decide +kernel
theorem bd_132_587 : decode (bn_b 132) 587 = .ok (.iload_n 3, 1) := by decide +kernel
theorem bd_132_588 : decode (bn_b 132) 588 = .ok (.iconst 1, 1) := by decide +kernel
theorem bd_132_589 : decode (bn_b 132) 589 = .ok (.iadd, 1) := by decide +kernel
theorem bd_132_590 : decode (bn_b 132) 590 = .ok (.iaload, 1) := by decide +kernel
theorem bd_132_591 : decode (bn_b 132) 591 = .ok (.aload_n 0, 1) := by decide +kernel
theorem bd_132_592 : decode (bn_b 132) 592 = .ok (.iload_n 3, 1) := by decide +kernel
theorem bd_132_593 : decode (bn_b 132) 593 = .ok (.iconst 2, 1) := by decide +kernel
theorem bd_132_594 : decode (bn_b 132) 594 = .ok (.iadd, 1) := by decide +kernel
theorem bd_132_595 : decode (bn_b 132) 595 = .ok (.iaload, 1) := by decide +kernel
theorem bd_132_596 : decode (bn_b 132) 596 = .ok (.aload_n 0, 1) := by decide +kernel
theorem bd_132_597 : decode (bn_b 132) 597 = .ok (.iload_n 3, 1) := by decide +kernel
theorem bd_132_598 : decode (bn_b 132) 598 = .ok (.iconst 3, 1) := by decide +kernel
theorem bd_132_599 : decode (bn_b 132) 599 = .ok (.iadd, 1) := by decide +kernel
theorem bd_132_600 : decode (bn_b 132) 600 = .ok (.iaload, 1) := by decide +kernel
theorem bd_132_601 : decode (bn_b 132) 601 = .ok (.aload_n 0, 1) := by decide +kernel
theorem bd_132_602 : decode (bn_b 132) 602 = .ok (.iload_n 3, 1) := by decide +kernel
theorem bd_132_603 : decode (bn_b 132) 603 = .ok (.iconst 4, 1) := by decide +kernel
theorem bd_132_604 : decode (bn_b 132) 604 = .ok (.iadd, 1) := by decide +kernel
theorem bd_132_605 : decode (bn_b 132) 605 = .ok (.iaload, 1) := by decide +kernel
theorem bd_132_606 : decode (bn_b 132) 606 = .ok (.ifCond .eq 7, 3) := by decide +kernel
theorem bd_132_609 : decode (bn_b 132) 609 = .ok (.iconst 1, 1) := by decide +kernel
theorem bd_132_610 : decode (bn_b 132) 610 = .ok (.goto 4, 3) := by decide +kernel
theorem bd_132_613 : decode (bn_b 132) 613 = .ok (.iconst 0, 1) := by decide +kernel
theorem bd_132_614 : decode (bn_b 132) 614 = .ok (.invokevirtual 92, 3) := by decide +kernel
theorem bd_132_617 : decode (bn_b 132) 617 = .ok (.aload_n 2, 1) := by decide +kernel
theorem bd_132_618 : decode (bn_b 132) 618 = .ok (.aload_n 0, 1) := by decide +kernel
theorem bd_132_619 : decode (bn_b 132) 619 = .ok (.iload_n 3, 1) := by decide +kernel
theorem bd_132_620 : decode (bn_b 132) 620 = .ok (.iconst 1, 1) := by decide +kernel
theorem bd_132_621 : decode (bn_b 132) 621 = .ok (.iadd, 1) := by decide +kernel
theorem bd_132_622 : decode (bn_b 132) 622 = .ok (.iaload, 1) := by decide +kernel
theorem bd_132_623 : decode (bn_b 132) 623 = .ok (.aload_n 0, 1) := by decide +kernel
theorem bd_132_624 : decode (bn_b 132) 624 = .ok (.iload_n 3, 1) := by decide +kernel
theorem bd_132_625 : decode (bn_b 132) 625 = .ok (.iconst 2, 1) := by decide +kernel
theorem bd_132_626 : decode (bn_b 132) 626 = .ok (.iadd, 1) := by decide +kernel
theorem bd_132_627 : decode (bn_b 132) 627 = .ok (.iaload, 1) := by decide +kernel
theorem bd_132_628 : decode (bn_b 132) 628 = .ok (.aload_n 0, 1) := by decide +kernel
theorem bd_132_629 : decode (bn_b 132) 629 = .ok (.iload_n 3, 1) := by decide +kernel
theorem bd_132_630 : decode (bn_b 132) 630 = .ok (.iconst 3, 1) := by decide +kernel
theorem bd_132_631 : decode (bn_b 132) 631 = .ok (.iadd, 1) := by decide +kernel
theorem bd_132_632 : decode (bn_b 132) 632 = .ok (.iaload, 1) := by decide +kernel
theorem bd_132_633 : decode (bn_b 132) 633 = .ok (.aload_n 0, 1) := by decide +kernel
theorem bd_132_634 : decode (bn_b 132) 634 = .ok (.iload_n 3, 1) := by decide +kernel
theorem bd_132_635 : decode (bn_b 132) 635 = .ok (.iconst 4, 1) := by decide +kernel
theorem bd_132_636 : decode (bn_b 132) 636 = .ok (.iadd, 1) := by decide +kernel
theorem bd_132_637 : decode (bn_b 132) 637 = .ok (.iaload, 1) := by decide +kernel
theorem bd_132_638 : decode (bn_b 132) 638 = .ok (.ifCond .eq 7, 3) := by decide +kernel
theorem bd_132_641 : decode (bn_b 132) 641 = .ok (.iconst 1, 1) := by decide +kernel
theorem bd_132_642 : decode (bn_b 132) 642 = .ok (.goto 4, 3) := by decide +kernel
theorem bd_132_645 : decode (bn_b 132) 645 = .ok (.iconst 0, 1) := by decide +kernel
theorem bd_132_646 : decode (bn_b 132) 646 = .ok (.invokevirtual 96, 3) := by decide +kernel
theorem bd_132_649 : decode (bn_b 132) 649 = .ok (.if_icmp .eq 124, 3) := by decide +kernel
theorem bd_132_652 : decode (bn_b 132) 652 = .ok (.iconst 0, 1) := by decide +kernel
theorem bd_132_653 : decode (bn_b 132) 653 = .ok (.ireturn, 1) := by decide +kernel
theorem bd_132_654 : decode (bn_b 132) 654 = .ok (.aload_n 1, 1) := by decide +kernel
theorem bd_132_655 : decode (bn_b 132) 655 = .ok (.aload_n 0, 1) := by decide +kernel
theorem bd_132_656 : decode (bn_b 132) 656 = .ok (.iload_n 3, 1) := by decide +kernel
theorem bd_132_657 : decode (bn_b 132) 657 = .ok (.iconst 1, 1) := by decide +kernel
theorem bd_132_658 : decode (bn_b 132) 658 = .ok (.iadd, 1) := by decide +kernel
theorem bd_132_659 : decode (bn_b 132) 659 = .ok (.iaload, 1) := by decide +kernel
theorem bd_132_660 : decode (bn_b 132) 660 = .ok (.aload_n 0, 1) := by decide +kernel
theorem bd_132_661 : decode (bn_b 132) 661 = .ok (.iload_n 3, 1) := by decide +kernel
theorem bd_132_662 : decode (bn_b 132) 662 = .ok (.iconst 2, 1) := by decide +kernel
theorem bd_132_663 : decode (bn_b 132) 663 = .ok (.iadd, 1) := by decide +kernel
theorem bd_132_664 : decode (bn_b 132) 664 = .ok (.iaload, 1) := by decide +kernel
theorem bd_132_665 : decode (bn_b 132) 665 = .ok (.ifCond .eq 7, 3) := by decide +kernel
theorem bd_132_668 : decode (bn_b 132) 668 = .ok (.iconst 1, 1) := by decide +kernel
theorem bd_132_669 : decode (bn_b 132) 669 = .ok (.goto 4, 3) := by decide +kernel
theorem bd_132_672 : decode (bn_b 132) 672 = .ok (.iconst 0, 1) := by decide +kernel
theorem bd_132_673 : decode (bn_b 132) 673 = .ok (.invokevirtual 97, 3) := by decide +kernel
theorem bd_132_676 : decode (bn_b 132) 676 = .ok (.aload_n 2, 1) := by decide +kernel
theorem bd_132_677 : decode (bn_b 132) 677 = .ok (.aload_n 0, 1) := by decide +kernel
theorem bd_132_678 : decode (bn_b 132) 678 = .ok (.iload_n 3, 1) := by decide +kernel
theorem bd_132_679 : decode (bn_b 132) 679 = .ok (.iconst 1, 1) := by decide +kernel
theorem bd_132_680 : decode (bn_b 132) 680 = .ok (.iadd, 1) := by decide +kernel
theorem bd_132_681 : decode (bn_b 132) 681 = .ok (.iaload, 1) := by decide +kernel
theorem bd_132_682 : decode (bn_b 132) 682 = .ok (.aload_n 0, 1) := by decide +kernel
theorem bd_132_683 : decode (bn_b 132) 683 = .ok (.iload_n 3, 1) := by decide +kernel
theorem bd_132_684 : decode (bn_b 132) 684 = .ok (.iconst 2, 1) := by decide +kernel
theorem bd_132_685 : decode (bn_b 132) 685 = .ok (.iadd, 1) := by decide +kernel
theorem bd_132_686 : decode (bn_b 132) 686 = .ok (.iaload, 1) := by decide +kernel
theorem bd_132_687 : decode (bn_b 132) 687 = .ok (.ifCond .eq 7, 3) := by decide +kernel
theorem bd_132_690 : decode (bn_b 132) 690 = .ok (.iconst 1, 1) := by decide +kernel
theorem bd_132_691 : decode (bn_b 132) 691 = .ok (.goto 4, 3) := by decide +kernel
theorem bd_132_694 : decode (bn_b 132) 694 = .ok (.iconst 0, 1) := by decide +kernel
theorem bd_132_695 : decode (bn_b 132) 695 = .ok (.invokevirtual 101, 3) := by decide +kernel
theorem bd_132_698 : decode (bn_b 132) 698 = .ok (.lcmp, 1) := by decide +kernel
theorem bd_132_699 : decode (bn_b 132) 699 = .ok (.ifCond .eq 74, 3) := by decide +kernel
theorem bd_132_702 : decode (bn_b 132) 702 = .ok (.iconst 0, 1) := by decide +kernel
theorem bd_132_703 : decode (bn_b 132) 703 = .ok (.ireturn, 1) := by decide +kernel
theorem bd_132_704 : decode (bn_b 132) 704 = .ok (.aload_n 1, 1) := by decide +kernel
theorem bd_132_705 : decode (bn_b 132) 705 = .ok (.aload_n 0, 1) := by decide +kernel
theorem bd_132_706 : decode (bn_b 132) 706 = .ok (.iload_n 3, 1) := by decide +kernel
theorem bd_132_707 : decode (bn_b 132) 707 = .ok (.iconst 1, 1) := by decide +kernel
theorem bd_132_708 : decode (bn_b 132) 708 = .ok (.iadd, 1) := by decide +kernel
theorem bd_132_709 : decode (bn_b 132) 709 = .ok (.iaload, 1) := by decide +kernel
theorem bd_132_710 : decode (bn_b 132) 710 = .ok (.invokevirtual 102, 3) := by decide +kernel
theorem bd_132_713 : decode (bn_b 132) 713 = .ok (.aload_n 2, 1) := by decide +kernel
theorem bd_132_714 : decode (bn_b 132) 714 = .ok (.aload_n 0, 1) := by decide +kernel
theorem bd_132_715 : decode (bn_b 132) 715 = .ok (.iload_n 3, 1) := by decide +kernel
theorem bd_132_716 : decode (bn_b 132) 716 = .ok (.iconst 1, 1) := by decide +kernel
theorem bd_132_717 : decode (bn_b 132) 717 = .ok (.iadd, 1) := by decide +kernel
theorem bd_132_718 : decode (bn_b 132) 718 = .ok (.iaload, 1) := by decide +kernel
theorem bd_132_719 : decode (bn_b 132) 719 = .ok (.invokevirtual 105, 3) := by decide +kernel
theorem bd_132_722 : decode (bn_b 132) 722 = .ok (.if_icmp .eq 51, 3) := by decide +kernel
theorem bd_132_725 : decode (bn_b 132) 725 = .ok (.iconst 0, 1) := by decide +kernel
theorem bd_132_726 : decode (bn_b 132) 726 = .ok (.ireturn, 1) := by decide +kernel
theorem bd_132_727 : decode (bn_b 132) 727 = .ok (.aload_n 1, 1) := by decide +kernel
theorem bd_132_728 : decode (bn_b 132) 728 = .ok (.aload_n 0, 1) := by decide +kernel
theorem bd_132_729 : decode (bn_b 132) 729 = .ok (.iload_n 3, 1) := by decide +kernel
theorem bd_132_730 : decode (bn_b 132) 730 = .ok (.iconst 1, 1) := by decide +kernel
theorem bd_132_731 : decode (bn_b 132) 731 = .ok (.iadd, 1) := by decide +kernel
theorem bd_132_732 : decode (bn_b 132) 732 = .ok (.iaload, 1) := by decide +kernel
theorem bd_132_733 : decode (bn_b 132) 733 = .ok (.invokevirtual 106, 3) := by decide +kernel
theorem bd_132_736 : decode (bn_b 132) 736 = .ok (.aload_n 2, 1) := by decide +kernel
theorem bd_132_737 : decode (bn_b 132) 737 = .ok (.aload_n 0, 1) := by decide +kernel
theorem bd_132_738 : decode (bn_b 132) 738 = .ok (.iload_n 3, 1) := by decide +kernel
theorem bd_132_739 : decode (bn_b 132) 739 = .ok (.iconst 1, 1) := by decide +kernel
theorem bd_132_740 : decode (bn_b 132) 740 = .ok (.iadd, 1) := by decide +kernel
theorem bd_132_741 : decode (bn_b 132) 741 = .ok (.iaload, 1) := by decide +kernel
theorem bd_132_742 : decode (bn_b 132) 742 = .ok (.invokevirtual 109, 3) := by decide +kernel
theorem bd_132_745 : decode (bn_b 132) 745 = .ok (.if_icmp .eq 28, 3) := by decide +kernel
theorem bd_132_748 : decode (bn_b 132) 748 = .ok (.iconst 0, 1) := by decide +kernel
theorem bd_132_749 : decode (bn_b 132) 749 = .ok (.ireturn, 1) := by decide +kernel
theorem bd_132_750 : decode (bn_b 132) 750 = .ok (.aload_n 1, 1) := by decide +kernel
theorem bd_132_751 : decode (bn_b 132) 751 = .ok (.aload_n 0, 1) := by decide +kernel
theorem bd_132_752 : decode (bn_b 132) 752 = .ok (.iload_n 3, 1) := by decide +kernel
theorem bd_132_753 : decode (bn_b 132) 753 = .ok (.iconst 1, 1) := by decide +kernel
theorem bd_132_754 : decode (bn_b 132) 754 = .ok (.iadd, 1) := by decide +kernel
theorem bd_132_755 : decode (bn_b 132) 755 = .ok (.iaload, 1) := by decide +kernel
theorem bd_132_756 : decode (bn_b 132) 756 = .ok (.invokevirtual 110, 3) := by decide +kernel
theorem bd_132_759 : decode (bn_b 132) 759 = .ok (.aload_n 2, 1) := by decide +kernel
theorem bd_132_760 : decode (bn_b 132) 760 = .ok (.aload_n 0, 1) := by decide +kernel
theorem bd_132_761 : decode (bn_b 132) 761 = .ok (.iload_n 3, 1) := by decide +kernel
theorem bd_132_762 : decode (bn_b 132) 762 = .ok (.iconst 1, 1) := by decide +kernel
theorem bd_132_763 : decode (bn_b 132) 763 = .ok (.iadd, 1) := by decide +kernel
theorem bd_132_764 : decode (bn_b 132) 764 = .ok (.iaload, 1) := by decide +kernel
theorem bd_132_765 : decode (bn_b 132) 765 = .ok (.invokevirtual 113, 3) := by decide +kernel
theorem bd_132_768 : decode (bn_b 132) 768 = .ok (.if_icmp .eq 5, 3) := by decide +kernel
theorem bd_132_771 : decode (bn_b 132) 771 = .ok (.iconst 0, 1) := by decide +kernel
theorem bd_132_772 : decode (bn_b 132) 772 = .ok (.ireturn, 1) := by decide +kernel
theorem bd_132_773 : decode (bn_b 132) 773 = .ok (.iinc 3 5, 3) := by decide +kernel
theorem bd_132_776 : decode (bn_b 132) 776 = .ok (.goto (-758), 3) := by decide +kernel
theorem bd_132_779 : decode (bn_b 132) 779 = .ok (.iconst 1, 1) := by decide +kernel
theorem bd_132_780 : decode (bn_b 132) 780 = .ok (.ireturn, 1) := by decide +kernel
