theorem dX9_speak_29 : decode cX9_speak 29 = .ok (.ifCond .lt 12, 3) := by decide +kernel
theorem dX9_speak_32 : decode cX9_speak 32 = .ok (.iload 7, 2) := by decide +kernel
theorem dX9_speak_34 : decode cX9_speak 34 = .ok (.getstatic 36, 3) := by decide +kernel
theorem dX9_speak_37 : decode cX9_speak 37 = .ok (.arraylength, 1) := by decide +kernel
theorem dX9_speak_38 : decode cX9_speak 38 = .ok (.if_icmp .lt 5, 3) := by decide +kernel
theorem dX9_speak_41 : decode cX9_speak 41 = .ok (.iconst 0, 1) := by decide +kernel
theorem dX9_speak_42 : decode cX9_speak 42 = .ok (.ireturn, 1) := by decide +kernel
theorem dX9_speak_43 : decode cX9_speak 43 = .ok (.getstatic 36, 3) := by decide +kernel
theorem dX9_speak_46 : decode cX9_speak 46 = .ok (.iload 7, 2) := by decide +kernel
theorem dX9_speak_48 : decode cX9_speak 48 = .ok (.iaload, 1) := by decide +kernel
theorem dX9_speak_49 : decode cX9_speak 49 = .ok (.ifCond .eq 22, 3) := by decide +kernel
theorem dX9_speak_52 : decode cX9_speak 52 = .ok (.aload_n 0, 1) := by decide +kernel
theorem dX9_speak_53 : decode cX9_speak 53 = .ok (.getstatic 36, 3) := by decide +kernel
theorem dX9_speak_56 : decode cX9_speak 56 = .ok (.iload 7, 2) := by decide +kernel
theorem dX9_speak_58 : decode cX9_speak 58 = .ok (.iaload, 1) := by decide +kernel
theorem dX9_speak_59 : decode cX9_speak 59 = .ok (.iload 5, 2) := by decide +kernel
theorem dX9_speak_61 : decode cX9_speak 61 = .ok (.invokestatic 39, 3) := by decide +kernel
theorem dX9_speak_64 : decode cX9_speak 64 = .ok (.iload_n 3, 1) := by decide +kernel
theorem dX9_speak_65 : decode cX9_speak 65 = .ok (.iload 4, 2) := by decide +kernel
theorem dX9_speak_67 : decode cX9_speak 67 = .ok (.invokevirtual 45, 3) := by decide +kernel
theorem dX9_speak_70 : decode cX9_speak 70 = .ok (.ireturn, 1) := by decide +kernel
theorem dX9_speak_71 : decode cX9_speak 71 = .ok (.iload 5, 2) := by decide +kernel
theorem dX9_speak_73 : decode cX9_speak 73 = .ok (.invokestatic 39, 3) := by decide +kernel
theorem dX9_speak_76 : decode cX9_speak 76 = .ok (.istore 5, 2) := by decide +kernel
theorem dX9_speak_78 : decode cX9_speak 78 = .ok (.iinc 6 1, 3) := by decide +kernel
theorem dX9_speak_81 : decode cX9_speak 81 = .ok (.goto (-75), 3) := by decide +kernel
theorem dX9_speak_84 : decode cX9_speak 84 = .ok (.iconst 0, 1) := by decide +kernel
theorem dX9_speak_85 : decode cX9_speak 85 = .ok (.ireturn, 1) := by decide +kernel
theorem dX9_bodySays_0 : decode cX9_bodySays 0 = .ok (.iload 4, 2) := by decide +kernel
theorem dX9_bodySays_2 : decode cX9_bodySays 2 = .ok (.bipush 40, 2) := by decide +kernel
theorem dX9_bodySays_4 : decode cX9_bodySays 4 = .ok (.if_icmp .le 5, 3) := by decide +kernel
theorem dX9_bodySays_7 : decode cX9_bodySays 7 = .ok (.iconst 0, 1) := by decide +kernel
theorem dX9_bodySays_8 : decode cX9_bodySays 8 = .ok (.ireturn, 1) := by decide +kernel
theorem dX9_bodySays_9 : decode cX9_bodySays 9 = .ok (.aload_n 0, 1) := by decide +kernel
theorem dX9_bodySays_10 : decode cX9_bodySays 10 = .ok (.getfield 15, 3) := by decide +kernel
theorem dX9_bodySays_13 : decode cX9_bodySays 13 = .ok (.bipush 30, 2) := by decide +kernel
theorem dX9_bodySays_15 : decode cX9_bodySays 15 = .ok (.if_icmp .ge 23, 3) := by decide +kernel
theorem dX9_bodySays_18 : decode cX9_bodySays 18 = .ok (.aload_n 0, 1) := by decide +kernel
theorem dX9_bodySays_19 : decode cX9_bodySays 19 = .ok (.getfield 11, 3) := by decide +kernel
theorem dX9_bodySays_22 : decode cX9_bodySays 22 = .ok (.aload_n 0, 1) := by decide +kernel
theorem dX9_bodySays_23 : decode cX9_bodySays 23 = .ok (.getfield 15, 3) := by decide +kernel
theorem dX9_bodySays_26 : decode cX9_bodySays 26 = .ok (.iload_n 1, 1) := by decide +kernel
theorem dX9_bodySays_27 : decode cX9_bodySays 27 = .ok (.iastore, 1) := by decide +kernel
theorem dX9_bodySays_28 : decode cX9_bodySays 28 = .ok (.aload_n 0, 1) := by decide +kernel
theorem dX9_bodySays_29 : decode cX9_bodySays 29 = .ok (.dup, 1) := by decide +kernel
theorem dX9_bodySays_30 : decode cX9_bodySays 30 = .ok (.getfield 15, 3) := by decide +kernel
theorem dX9_bodySays_33 : decode cX9_bodySays 33 = .ok (.iconst 1, 1) := by decide +kernel
theorem dX9_bodySays_34 : decode cX9_bodySays 34 = .ok (.iadd, 1) := by decide +kernel
theorem dX9_bodySays_35 : decode cX9_bodySays 35 = .ok (.putfield 15, 3) := by decide +kernel
theorem dX9_bodySays_38 : decode cX9_bodySays 38 = .ok (.iload 4, 2) := by decide +kernel
theorem dX9_bodySays_40 : decode cX9_bodySays 40 = .ok (.iconst 1, 1) := by decide +kernel
theorem dX9_bodySays_41 : decode cX9_bodySays 41 = .ok (.iadd, 1) := by decide +kernel
theorem dX9_bodySays_42 : decode cX9_bodySays 42 = .ok (.istore 5, 2) := by decide +kernel
theorem dX9_bodySays_44 : decode cX9_bodySays 44 = .ok (.iload_n 1, 1) := by decide +kernel
theorem dX9_bodySays_45 : decode cX9_bodySays 45 = .ok (.lookupswitch 306 #[(10, 107), (11, 114), (12, 129), (13, 147), (20, 190), (21, 203), (30, 241), (40, 253), (50, 265), (51, 277), (60, 292), (70, 304)], 107) := by decide +kernel
theorem dX9_bodySays_152 : decode cX9_bodySays 152 = .ok (.iload_n 3, 1) := by decide +kernel
theorem dX9_bodySays_153 : decode cX9_bodySays 153 = .ok (.aload_n 0, 1) := by decide +kernel
theorem dX9_bodySays_154 : decode cX9_bodySays 154 = .ok (.getfield 29, 3) := by decide +kernel
theorem dX9_bodySays_157 : decode cX9_bodySays 157 = .ok (.iadd, 1) := by decide +kernel
theorem dX9_bodySays_158 : decode cX9_bodySays 158 = .ok (.ireturn, 1) := by decide +kernel
theorem dX9_bodySays_159 : decode cX9_bodySays 159 = .ok (.aload_n 0, 1) := by decide +kernel
theorem dX9_bodySays_160 : decode cX9_bodySays 160 = .ok (.aload_n 0, 1) := by decide +kernel
theorem dX9_bodySays_161 : decode cX9_bodySays 161 = .ok (.getfield 23, 3) := by decide +kernel
theorem dX9_bodySays_164 : decode cX9_bodySays 164 = .ok (.iconst 0, 1) := by decide +kernel
theorem dX9_bodySays_165 : decode cX9_bodySays 165 = .ok (.iload_n 3, 1) := by decide +kernel
theorem dX9_bodySays_166 : decode cX9_bodySays 166 = .ok (.iload 5, 2) := by decide +kernel
theorem dX9_bodySays_168 : decode cX9_bodySays 168 = .ok (.invokevirtual 32, 3) := by decide +kernel
theorem dX9_bodySays_171 : decode cX9_bodySays 171 = .ok (.iconst 2, 1) := by decide +kernel
theorem dX9_bodySays_172 : decode cX9_bodySays 172 = .ok (.imul, 1) := by decide +kernel
theorem dX9_bodySays_173 : decode cX9_bodySays 173 = .ok (.ireturn, 1) := by decide +kernel
theorem dX9_bodySays_174 : decode cX9_bodySays 174 = .ok (.aload_n 0, 1) := by decide +kernel
theorem dX9_bodySays_175 : decode cX9_bodySays 175 = .ok (.aload_n 0, 1) := by decide +kernel
theorem dX9_bodySays_176 : decode cX9_bodySays 176 = .ok (.getfield 23, 3) := by decide +kernel
theorem dX9_bodySays_179 : decode cX9_bodySays 179 = .ok (.iconst 1, 1) := by decide +kernel
theorem dX9_bodySays_180 : decode cX9_bodySays 180 = .ok (.iload_n 3, 1) := by decide +kernel
theorem dX9_bodySays_181 : decode cX9_bodySays 181 = .ok (.iload 5, 2) := by decide +kernel
theorem dX9_bodySays_183 : decode cX9_bodySays 183 = .ok (.invokevirtual 32, 3) := by decide +kernel
theorem dX9_bodySays_186 : decode cX9_bodySays 186 = .ok (.aload_n 0, 1) := by decide +kernel
theorem dX9_bodySays_187 : decode cX9_bodySays 187 = .ok (.getfield 26, 3) := by decide +kernel
theorem dX9_bodySays_190 : decode cX9_bodySays 190 = .ok (.isub, 1) := by decide +kernel
theorem dX9_bodySays_191 : decode cX9_bodySays 191 = .ok (.ireturn, 1) := by decide +kernel
theorem dX9_bodySays_192 : decode cX9_bodySays 192 = .ok (.aload_n 0, 1) := by decide +kernel
theorem dX9_bodySays_193 : decode cX9_bodySays 193 = .ok (.aload_n 0, 1) := by decide +kernel
theorem dX9_bodySays_194 : decode cX9_bodySays 194 = .ok (.getfield 26, 3) := by decide +kernel
theorem dX9_bodySays_197 : decode cX9_bodySays 197 = .ok (.aload_n 0, 1) := by decide +kernel
theorem dX9_bodySays_198 : decode cX9_bodySays 198 = .ok (.getfield 29, 3) := by decide +kernel
theorem dX9_bodySays_201 : decode cX9_bodySays 201 = .ok (.if_icmp .ne 7, 3) := by decide +kernel
theorem dX9_bodySays_204 : decode cX9_bodySays 204 = .ok (.iconst 1, 1) := by decide +kernel
theorem dX9_bodySays_205 : decode cX9_bodySays 205 = .ok (.goto 4, 3) := by decide +kernel
theorem dX9_bodySays_208 : decode cX9_bodySays 208 = .ok (.iconst 0, 1) := by decide +kernel
theorem dX9_bodySays_209 : decode cX9_bodySays 209 = .ok (.putfield 19, 3) := by decide +kernel
theorem dX9_bodySays_212 : decode cX9_bodySays 212 = .ok (.aload_n 0, 1) := by decide +kernel
theorem dX9_bodySays_213 : decode cX9_bodySays 213 = .ok (.getfield 19, 3) := by decide +kernel
theorem dX9_bodySays_216 : decode cX9_bodySays 216 = .ok (.ifCond .eq 7, 3) := by decide +kernel
theorem dX9_bodySays_219 : decode cX9_bodySays 219 = .ok (.iconst 0, 1) := by decide +kernel
theorem dX9_bodySays_220 : decode cX9_bodySays 220 = .ok (.goto 14, 3) := by decide +kernel
theorem dX9_bodySays_223 : decode cX9_bodySays 223 = .ok (.iload_n 3, 1) := by decide +kernel
theorem dX9_bodySays_224 : decode cX9_bodySays 224 = .ok (.aload_n 0, 1) := by decide +kernel
theorem dX9_bodySays_225 : decode cX9_bodySays 225 = .ok (.getfield 26, 3) := by decide +kernel
theorem dX9_bodySays_228 : decode cX9_bodySays 228 = .ok (.aload_n 0, 1) := by decide +kernel
theorem dX9_bodySays_229 : decode cX9_bodySays 229 = .ok (.getfield 29, 3) := by decide +kernel
theorem dX9_bodySays_232 : decode cX9_bodySays 232 = .ok (.isub, 1) := by decide +kernel
theorem dX9_bodySays_233 : decode cX9_bodySays 233 = .ok (.idiv, 1) := by decide +kernel
theorem dX9_bodySays_234 : decode cX9_bodySays 234 = .ok (.ireturn, 1) := by decide +kernel
theorem dX9_bodySays_235 : decode cX9_bodySays 235 = .ok (.aload_n 0, 1) := by decide +kernel
theorem dX9_bodySays_236 : decode cX9_bodySays 236 = .ok (.iload_n 2, 1) := by decide +kernel
theorem dX9_bodySays_237 : decode cX9_bodySays 237 = .ok (.iconst 0, 1) := by decide +kernel
theorem dX9_bodySays_238 : decode cX9_bodySays 238 = .ok (.iload_n 3, 1) := by decide +kernel
theorem dX9_bodySays_239 : decode cX9_bodySays 239 = .ok (.iload 5, 2) := by decide +kernel
theorem dX9_bodySays_241 : decode cX9_bodySays 241 = .ok (.invokevirtual 32, 3) := by decide +kernel
theorem dX9_bodySays_244 : decode cX9_bodySays 244 = .ok (.bipush 8, 2) := by decide +kernel
theorem dX9_bodySays_246 : decode cX9_bodySays 246 = .ok (.isub, 1) := by decide +kernel
theorem dX9_bodySays_247 : decode cX9_bodySays 247 = .ok (.ireturn, 1) := by decide +kernel
theorem dX9_bodySays_248 : decode cX9_bodySays 248 = .ok (.aload_n 0, 1) := by decide +kernel
theorem dX9_bodySays_249 : decode cX9_bodySays 249 = .ok (.iload_n 2, 1) := by decide +kernel
theorem dX9_bodySays_250 : decode cX9_bodySays 250 = .ok (.iconst 3, 1) := by decide +kernel
theorem dX9_bodySays_251 : decode cX9_bodySays 251 = .ok (.iload_n 3, 1) := by decide +kernel
theorem dX9_bodySays_252 : decode cX9_bodySays 252 = .ok (.iload 5, 2) := by decide +kernel
theorem dX9_bodySays_254 : decode cX9_bodySays 254 = .ok (.invokevirtual 32, 3) := by decide +kernel
theorem dX9_bodySays_257 : decode cX9_bodySays 257 = .ok (.istore 6, 2) := by decide +kernel
theorem dX9_bodySays_259 : decode cX9_bodySays 259 = .ok (.aload_n 0, 1) := by decide +kernel
theorem dX9_bodySays_260 : decode cX9_bodySays 260 = .ok (.getfield 19, 3) := by decide +kernel
theorem dX9_bodySays_263 : decode cX9_bodySays 263 = .ok (.ifCond .eq 7, 3) := by decide +kernel
theorem dX9_bodySays_266 : decode cX9_bodySays 266 = .ok (.iconst 0, 1) := by decide +kernel
theorem dX9_bodySays_267 : decode cX9_bodySays 267 = .ok (.goto 18, 3) := by decide +kernel
theorem dX9_bodySays_270 : decode cX9_bodySays 270 = .ok (.iload 6, 2) := by decide +kernel
theorem dX9_bodySays_272 : decode cX9_bodySays 272 = .ok (.aload_n 0, 1) := by decide +kernel
theorem dX9_bodySays_273 : decode cX9_bodySays 273 = .ok (.aload_n 0, 1) := by decide +kernel
theorem dX9_bodySays_274 : decode cX9_bodySays 274 = .ok (.getfield 23, 3) := by decide +kernel
theorem dX9_bodySays_277 : decode cX9_bodySays 277 = .ok (.iconst 1, 1) := by decide +kernel
theorem dX9_bodySays_278 : decode cX9_bodySays 278 = .ok (.iconst 1, 1) := by decide +kernel
theorem dX9_bodySays_279 : decode cX9_bodySays 279 = .ok (.iload 5, 2) := by decide +kernel
theorem dX9_bodySays_281 : decode cX9_bodySays 281 = .ok (.invokevirtual 32, 3) := by decide +kernel
theorem dX9_bodySays_284 : decode cX9_bodySays 284 = .ok (.iadd, 1) := by decide +kernel
theorem dX9_bodySays_285 : decode cX9_bodySays 285 = .ok (.ireturn, 1) := by decide +kernel
theorem dX9_bodySays_286 : decode cX9_bodySays 286 = .ok (.iconst 0, 1) := by decide +kernel
theorem dX9_bodySays_287 : decode cX9_bodySays 287 = .ok (.aload_n 0, 1) := by decide +kernel
theorem dX9_bodySays_288 : decode cX9_bodySays 288 = .ok (.iload_n 2, 1) := by decide +kernel
theorem dX9_bodySays_289 : decode cX9_bodySays 289 = .ok (.iconst 1, 1) := by decide +kernel
theorem dX9_bodySays_290 : decode cX9_bodySays 290 = .ok (.iload_n 3, 1) := by decide +kernel
theorem dX9_bodySays_291 : decode cX9_bodySays 291 = .ok (.iload 5, 2) := by decide +kernel
theorem dX9_bodySays_293 : decode cX9_bodySays 293 = .ok (.invokevirtual 32, 3) := by decide +kernel
theorem dX9_bodySays_296 : decode cX9_bodySays 296 = .ok (.isub, 1) := by decide +kernel
theorem dX9_bodySays_297 : decode cX9_bodySays 297 = .ok (.ireturn, 1) := by decide +kernel
theorem dX9_bodySays_298 : decode cX9_bodySays 298 = .ok (.aload_n 0, 1) := by decide +kernel
theorem dX9_bodySays_299 : decode cX9_bodySays 299 = .ok (.iload_n 2, 1) := by decide +kernel
theorem dX9_bodySays_300 : decode cX9_bodySays 300 = .ok (.iconst 2, 1) := by decide +kernel
theorem dX9_bodySays_301 : decode cX9_bodySays 301 = .ok (.iload_n 3, 1) := by decide +kernel
theorem dX9_bodySays_302 : decode cX9_bodySays 302 = .ok (.iconst 2, 1) := by decide +kernel
theorem dX9_bodySays_303 : decode cX9_bodySays 303 = .ok (.idiv, 1) := by decide +kernel
theorem dX9_bodySays_304 : decode cX9_bodySays 304 = .ok (.iload 5, 2) := by decide +kernel
theorem dX9_bodySays_306 : decode cX9_bodySays 306 = .ok (.invokevirtual 32, 3) := by decide +kernel
theorem dX9_bodySays_309 : decode cX9_bodySays 309 = .ok (.ireturn, 1) := by decide +kernel
theorem dX9_bodySays_310 : decode cX9_bodySays 310 = .ok (.aload_n 0, 1) := by decide +kernel
theorem dX9_bodySays_311 : decode cX9_bodySays 311 = .ok (.iload_n 2, 1) := by decide +kernel
theorem dX9_bodySays_312 : decode cX9_bodySays 312 = .ok (.iconst 0, 1) := by decide +kernel
theorem dX9_bodySays_313 : decode cX9_bodySays 313 = .ok (.iload_n 3, 1) := by decide +kernel
theorem dX9_bodySays_314 : decode cX9_bodySays 314 = .ok (.iload 5, 2) := by decide +kernel
theorem dX9_bodySays_316 : decode cX9_bodySays 316 = .ok (.invokevirtual 32, 3) := by decide +kernel
theorem dX9_bodySays_319 : decode cX9_bodySays 319 = .ok (.iconst 3, 1) := by decide +kernel
theorem dX9_bodySays_320 : decode cX9_bodySays 320 = .ok (.imul, 1) := by decide +kernel
theorem dX9_bodySays_321 : decode cX9_bodySays 321 = .ok (.ireturn, 1) := by decide +kernel
theorem dX9_bodySays_322 : decode cX9_bodySays 322 = .ok (.aload_n 0, 1) := by decide +kernel
theorem dX9_bodySays_323 : decode cX9_bodySays 323 = .ok (.iload_n 2, 1) := by decide +kernel
theorem dX9_bodySays_324 : decode cX9_bodySays 324 = .ok (.iconst 2, 1) := by decide +kernel
theorem dX9_bodySays_325 : decode cX9_bodySays 325 = .ok (.iload_n 3, 1) := by decide +kernel
theorem dX9_bodySays_326 : decode cX9_bodySays 326 = .ok (.iload 5, 2) := by decide +kernel
theorem dX9_bodySays_328 : decode cX9_bodySays 328 = .ok (.invokevirtual 32, 3) := by decide +kernel
theorem dX9_bodySays_331 : decode cX9_bodySays 331 = .ok (.aload_n 0, 1) := by decide +kernel
theorem dX9_bodySays_332 : decode cX9_bodySays 332 = .ok (.getfield 29, 3) := by decide +kernel
theorem dX9_bodySays_335 : decode cX9_bodySays 335 = .ok (.ixor, 1) := by decide +kernel
theorem dX9_bodySays_336 : decode cX9_bodySays 336 = .ok (.ireturn, 1) := by decide +kernel
theorem dX9_bodySays_337 : decode cX9_bodySays 337 = .ok (.aload_n 0, 1) := by decide +kernel
theorem dX9_bodySays_338 : decode cX9_bodySays 338 = .ok (.iload_n 2, 1) := by decide +kernel
theorem dX9_bodySays_339 : decode cX9_bodySays 339 = .ok (.iconst 1, 1) := by decide +kernel
theorem dX9_bodySays_340 : decode cX9_bodySays 340 = .ok (.iload_n 3, 1) := by decide +kernel
theorem dX9_bodySays_341 : decode cX9_bodySays 341 = .ok (.iconst 1, 1) := by decide +kernel
theorem dX9_bodySays_342 : decode cX9_bodySays 342 = .ok (.iadd, 1) := by decide +kernel
theorem dX9_bodySays_343 : decode cX9_bodySays 343 = .ok (.iload 5, 2) := by decide +kernel
theorem dX9_bodySays_345 : decode cX9_bodySays 345 = .ok (.invokevirtual 32, 3) := by decide +kernel
theorem dX9_bodySays_348 : decode cX9_bodySays 348 = .ok (.ireturn, 1) := by decide +kernel
theorem dX9_bodySays_349 : decode cX9_bodySays 349 = .ok (.iconst 4, 1) := by decide +kernel
theorem dX9_bodySays_350 : decode cX9_bodySays 350 = .ok (.ireturn, 1) := by decide +kernel
theorem dX9_bodySays_351 : decode cX9_bodySays 351 = .ok (.aload_n 0, 1) := by decide +kernel
theorem dX9_bodySays_352 : decode cX9_bodySays 352 = .ok (.iload_n 2, 1) := by decide +kernel
theorem dX9_bodySays_353 : decode cX9_bodySays 353 = .ok (.iconst 1, 1) := by decide +kernel
theorem dX9_bodySays_354 : decode cX9_bodySays 354 = .ok (.iload_n 3, 1) := by decide +kernel
theorem dX9_bodySays_355 : decode cX9_bodySays 355 = .ok (.iload 5, 2) := by decide +kernel
theorem dX9_bodySays_357 : decode cX9_bodySays 357 = .ok (.invokevirtual 32, 3) := by decide +kernel
theorem dX9_bodySays_360 : decode cX9_bodySays 360 = .ok (.aload_n 0, 1) := by decide +kernel
theorem dX9_bodySays_361 : decode cX9_bodySays 361 = .ok (.getfield 26, 3) := by decide +kernel
theorem dX9_bodySays_364 : decode cX9_bodySays 364 = .ok (.iadd, 1) := by decide +kernel
theorem dX9_bodySays_365 : decode cX9_bodySays 365 = .ok (.ireturn, 1) := by decide +kernel
theorem dX10_init_0 : decode cX10_init 0 = .ok (.aload_n 0, 1) := by decide +kernel
theorem dX10_init_1 : decode cX10_init 1 = .ok (.invokespecial 3, 3) := by decide +kernel
theorem dX10_init_4 : decode cX10_init 4 = .ok (.aload_n 0, 1) := by decide +kernel
theorem dX10_init_5 : decode cX10_init 5 = .ok (.new 9, 3) := by decide +kernel
theorem dX10_init_8 : decode cX10_init 8 = .ok (.dup, 1) := by decide +kernel
theorem dX10_init_9 : decode cX10_init 9 = .ok (.invokespecial 11, 3) := by decide +kernel
theorem dX10_init_12 : decode cX10_init 12 = .ok (.putfield 12, 3) := by decide +kernel
theorem dX10_init_15 : decode cX10_init 15 = .ok (.aload_n 0, 1) := by decide +kernel
theorem dX10_init_16 : decode cX10_init 16 = .ok (.new 9, 3) := by decide +kernel
theorem dX10_init_19 : decode cX10_init 19 = .ok (.dup, 1) := by decide +kernel
theorem dX10_init_20 : decode cX10_init 20 = .ok (.invokespecial 11, 3) := by decide +kernel
theorem dX10_init_23 : decode cX10_init 23 = .ok (.putfield 16, 3) := by decide +kernel
theorem dX10_init_26 : decode cX10_init 26 = .ok (.aload_n 0, 1) := by decide +kernel
theorem dX10_init_27 : decode cX10_init 27 = .ok (.new 19, 3) := by decide +kernel
theorem dX10_init_30 : decode cX10_init 30 = .ok (.dup, 1) := by decide +kernel
theorem dX10_init_31 : decode cX10_init 31 = .ok (.invokespecial 21, 3) := by decide +kernel
theorem dX10_init_34 : decode cX10_init 34 = .ok (.putfield 22, 3) := by decide +kernel
theorem dX10_init_37 : decode cX10_init 37 = .ok (.aload_n 0, 1) := by decide +kernel
theorem dX10_init_38 : decode cX10_init 38 = .ok (.new 19, 3) := by decide +kernel
theorem dX10_init_41 : decode cX10_init 41 = .ok (.dup, 1) := by decide +kernel
theorem dX10_init_42 : decode cX10_init 42 = .ok (.invokespecial 21, 3) := by decide +kernel
theorem dX10_init_45 : decode cX10_init 45 = .ok (.putfield 26, 3) := by decide +kernel
theorem dX10_init_48 : decode cX10_init 48 = .ok (.aload_n 0, 1) := by decide +kernel
theorem dX10_init_49 : decode cX10_init 49 = .ok (.new 29, 3) := by decide +kernel
theorem dX10_init_52 : decode cX10_init 52 = .ok (.dup, 1) := by decide +kernel
theorem dX10_init_53 : decode cX10_init 53 = .ok (.invokespecial 31, 3) := by decide +kernel
theorem dX10_init_56 : decode cX10_init 56 = .ok (.putfield 32, 3) := by decide +kernel
theorem dX10_init_59 : decode cX10_init 59 = .ok (.aload_n 0, 1) := by decide +kernel
theorem dX10_init_60 : decode cX10_init 60 = .ok (.new 36, 3) := by decide +kernel
theorem dX10_init_63 : decode cX10_init 63 = .ok (.dup, 1) := by decide +kernel
theorem dX10_init_64 : decode cX10_init 64 = .ok (.invokespecial 38, 3) := by decide +kernel
theorem dX10_init_67 : decode cX10_init 67 = .ok (.putfield 39, 3) := by decide +kernel
theorem dX10_init_70 : decode cX10_init 70 = .ok (.aload_n 0, 1) := by decide +kernel
theorem dX10_init_71 : decode cX10_init 71 = .ok (.new 43, 3) := by decide +kernel
theorem dX10_init_74 : decode cX10_init 74 = .ok (.dup, 1) := by decide +kernel
theorem dX10_init_75 : decode cX10_init 75 = .ok (.invokespecial 45, 3) := by decide +kernel
theorem dX10_init_78 : decode cX10_init 78 = .ok (.putfield 46, 3) := by decide +kernel
theorem dX10_init_81 : decode cX10_init 81 = .ok (.aload_n 0, 1) := by decide +kernel
theorem dX10_init_82 : decode cX10_init 82 = .ok (.new 50, 3) := by decide +kernel
theorem dX10_init_85 : decode cX10_init 85 = .ok (.dup, 1) := by decide +kernel
theorem dX10_init_86 : decode cX10_init 86 = .ok (.invokespecial 52, 3) := by decide +kernel
theorem dX10_init_89 : decode cX10_init 89 = .ok (.putfield 53, 3) := by decide +kernel
theorem dX10_init_92 : decode cX10_init 92 = .ok (.aload_n 0, 1) := by decide +kernel
theorem dX10_init_93 : decode cX10_init 93 = .ok (.iconst 4, 1) := by decide +kernel
theorem dX10_init_94 : decode cX10_init 94 = .ok (.anewarray 57, 3) := by decide +kernel
theorem dX10_init_97 : decode cX10_init 97 = .ok (.putfield 59, 3) := by decide +kernel
theorem dX10_init_100 : decode cX10_init 100 = .ok (.aload_n 0, 1) := by decide +kernel
theorem dX10_init_101 : decode cX10_init 101 = .ok (.bipush 7, 2) := by decide +kernel
theorem dX10_init_103 : decode cX10_init 103 = .ok (.newarray .int, 2) := by decide +kernel
theorem dX10_init_105 : decode cX10_init 105 = .ok (.putfield 63, 3) := by decide +kernel
theorem dX10_init_108 : decode cX10_init 108 = .ok (.aload_n 0, 1) := by decide +kernel
theorem dX10_init_109 : decode cX10_init 109 = .ok (.iconst 0, 1) := by decide +kernel
theorem dX10_init_110 : decode cX10_init 110 = .ok (.putfield 67, 3) := by decide +kernel
theorem dX10_init_113 : decode cX10_init 113 = .ok (.iconst 0, 1) := by decide +kernel
theorem dX10_init_114 : decode cX10_init 114 = .ok (.istore_n 1, 1) := by decide +kernel
theorem dX10_init_115 : decode cX10_init 115 = .ok (.iload_n 1, 1) := by decide +kernel
theorem dX10_init_116 : decode cX10_init 116 = .ok (.iconst 4, 1) := by decide +kernel
theorem dX10_init_117 : decode cX10_init 117 = .ok (.if_icmp .ge 22, 3) := by decide +kernel
theorem dX10_init_120 : decode cX10_init 120 = .ok (.aload_n 0, 1) := by decide +kernel
theorem dX10_init_121 : decode cX10_init 121 = .ok (.getfield 59, 3) := by decide +kernel
theorem dX10_init_124 : decode cX10_init 124 = .ok (.iload_n 1, 1) := by decide +kernel
theorem dX10_init_125 : decode cX10_init 125 = .ok (.new 57, 3) := by decide +kernel
theorem dX10_init_128 : decode cX10_init 128 = .ok (.dup, 1) := by decide +kernel
theorem dX10_init_129 : decode cX10_init 129 = .ok (.invokespecial 71, 3) := by decide +kernel
theorem dX10_init_132 : decode cX10_init 132 = .ok (.aastore, 1) := by decide +kernel
theorem dX10_init_133 : decode cX10_init 133 = .ok (.iinc 1 1, 3) := by decide +kernel
theorem dX10_init_136 : decode cX10_init 136 = .ok (.goto (-21), 3) := by decide +kernel
theorem dX10_init_139 : decode cX10_init 139 = .ok (.return_, 1) := by decide +kernel
theorem dX10_tie_0 : decode cX10_tie 0 = .ok (.iload_n 1, 1) := by decide +kernel
theorem dX10_tie_1 : decode cX10_tie 1 = .ok (.bipush 20, 2) := by decide +kernel
theorem dX10_tie_3 : decode cX10_tie 3 = .ok (.invokestatic 72, 3) := by decide +kernel
theorem dX10_tie_6 : decode cX10_tie 6 = .ok (.ifCond .eq 20, 3) := by decide +kernel
theorem dX10_tie_9 : decode cX10_tie 9 = .ok (.iload_n 2, 1) := by decide +kernel
theorem dX10_tie_10 : decode cX10_tie 10 = .ok (.bipush 70, 2) := by decide +kernel
theorem dX10_tie_12 : decode cX10_tie 12 = .ok (.invokestatic 72, 3) := by decide +kernel
theorem dX10_tie_15 : decode cX10_tie 15 = .ok (.ifCond .eq 11, 3) := by decide +kernel
theorem dX10_tie_18 : decode cX10_tie 18 = .ok (.iload_n 3, 1) := by decide +kernel
theorem dX10_tie_19 : decode cX10_tie 19 = .ok (.iconst 5, 1) := by decide +kernel
theorem dX10_tie_20 : decode cX10_tie 20 = .ok (.invokestatic 72, 3) := by decide +kernel
theorem dX10_tie_23 : decode cX10_tie 23 = .ok (.ifCond .ne 10, 3) := by decide +kernel
theorem dX10_tie_26 : decode cX10_tie 26 = .ok (.aload_n 0, 1) := by decide +kernel
theorem dX10_tie_27 : decode cX10_tie 27 = .ok (.ldc 76, 2) := by decide +kernel
theorem dX10_tie_29 : decode cX10_tie 29 = .ok (.invokevirtual 77, 3) := by decide +kernel
theorem dX10_tie_32 : decode cX10_tie 32 = .ok (.ireturn, 1) := by decide +kernel
theorem dX10_tie_33 : decode cX10_tie 33 = .ok (.aload_n 0, 1) := by decide +kernel
theorem dX10_tie_34 : decode cX10_tie 34 = .ok (.getfield 12, 3) := by decide +kernel
theorem dX10_tie_37 : decode cX10_tie 37 = .ok (.getfield 81, 3) := by decide +kernel
theorem dX10_tie_40 : decode cX10_tie 40 = .ok (.astore 4, 2) := by decide +kernel
theorem dX10_tie_42 : decode cX10_tie 42 = .ok (.bipush 10, 2) := by decide +kernel
theorem dX10_tie_44 : decode cX10_tie 44 = .ok (.aload 4, 2) := by decide +kernel
theorem dX10_tie_46 : decode cX10_tie 46 = .ok (.getfield 84, 3) := by decide +kernel
theorem dX10_tie_49 : decode cX10_tie 49 = .ok (.iload_n 1, 1) := by decide +kernel
theorem dX10_tie_50 : decode cX10_tie 50 = .ok (.iaload, 1) := by decide +kernel
theorem dX10_tie_51 : decode cX10_tie 51 = .ok (.imul, 1) := by decide +kernel
theorem dX10_tie_52 : decode cX10_tie 52 = .ok (.aload 4, 2) := by decide +kernel
theorem dX10_tie_54 : decode cX10_tie 54 = .ok (.getfield 87, 3) := by decide +kernel
theorem dX10_tie_57 : decode cX10_tie 57 = .ok (.iload_n 1, 1) := by decide +kernel
theorem dX10_tie_58 : decode cX10_tie 58 = .ok (.iaload, 1) := by decide +kernel
theorem dX10_tie_59 : decode cX10_tie 59 = .ok (.iadd, 1) := by decide +kernel
theorem dX10_tie_60 : decode cX10_tie 60 = .ok (.istore 5, 2) := by decide +kernel
theorem dX10_tie_62 : decode cX10_tie 62 = .ok (.aload 4, 2) := by decide +kernel
theorem dX10_tie_64 : decode cX10_tie 64 = .ok (.getfield 84, 3) := by decide +kernel
theorem dX10_tie_67 : decode cX10_tie 67 = .ok (.iload_n 1, 1) := by decide +kernel
theorem dX10_tie_68 : decode cX10_tie 68 = .ok (.iload_n 2, 1) := by decide +kernel
theorem dX10_tie_69 : decode cX10_tie 69 = .ok (.bipush 10, 2) := by decide +kernel
theorem dX10_tie_71 : decode cX10_tie 71 = .ok (.idiv, 1) := by decide +kernel
theorem dX10_tie_72 : decode cX10_tie 72 = .ok (.iastore, 1) := by decide +kernel
theorem dX10_tie_73 : decode cX10_tie 73 = .ok (.aload 4, 2) := by decide +kernel
theorem dX10_tie_75 : decode cX10_tie 75 = .ok (.getfield 87, 3) := by decide +kernel
theorem dX10_tie_78 : decode cX10_tie 78 = .ok (.iload_n 1, 1) := by decide +kernel
theorem dX10_tie_79 : decode cX10_tie 79 = .ok (.iload_n 2, 1) := by decide +kernel
theorem dX10_tie_80 : decode cX10_tie 80 = .ok (.bipush 10, 2) := by decide +kernel
theorem dX10_tie_82 : decode cX10_tie 82 = .ok (.irem, 1) := by decide +kernel
theorem dX10_tie_83 : decode cX10_tie 83 = .ok (.iastore, 1) := by decide +kernel
theorem dX10_tie_84 : decode cX10_tie 84 = .ok (.aload 4, 2) := by decide +kernel
theorem dX10_tie_86 : decode cX10_tie 86 = .ok (.iload_n 1, 1) := by decide +kernel
theorem dX10_tie_87 : decode cX10_tie 87 = .ok (.iload_n 3, 1) := by decide +kernel
theorem dX10_tie_88 : decode cX10_tie 88 = .ok (.invokevirtual 90, 3) := by decide +kernel
theorem dX10_tie_91 : decode cX10_tie 91 = .ok (.iload 5, 2) := by decide +kernel
theorem dX10_tie_93 : decode cX10_tie 93 = .ok (.ireturn, 1) := by decide +kernel
theorem dX10_knotIs_0 : decode cX10_knotIs 0 = .ok (.iload_n 1, 1) := by decide +kernel
theorem dX10_knotIs_1 : decode cX10_knotIs 1 = .ok (.bipush 20, 2) := by decide +kernel
theorem dX10_knotIs_3 : decode cX10_knotIs 3 = .ok (.invokestatic 72, 3) := by decide +kernel
theorem dX10_knotIs_6 : decode cX10_knotIs 6 = .ok (.ifCond .ne 10, 3) := by decide +kernel
theorem dX10_knotIs_9 : decode cX10_knotIs 9 = .ok (.aload_n 0, 1) := by decide +kernel
theorem dX10_knotIs_10 : decode cX10_knotIs 10 = .ok (.ldc 76, 2) := by decide +kernel
theorem dX10_knotIs_12 : decode cX10_knotIs 12 = .ok (.invokevirtual 77, 3) := by decide +kernel
theorem dX10_knotIs_15 : decode cX10_knotIs 15 = .ok (.ireturn, 1) := by decide +kernel
theorem dX10_knotIs_16 : decode cX10_knotIs 16 = .ok (.aload_n 0, 1) := by decide +kernel
theorem dX10_knotIs_17 : decode cX10_knotIs 17 = .ok (.getfield 12, 3) := by decide +kernel
theorem dX10_knotIs_20 : decode cX10_knotIs 20 = .ok (.getfield 81, 3) := by decide +kernel
theorem dX10_knotIs_23 : decode cX10_knotIs 23 = .ok (.astore_n 3, 1) := by decide +kernel
theorem dX10_knotIs_24 : decode cX10_knotIs 24 = .ok (.iload_n 2, 1) := by decide +kernel
theorem dX10_knotIs_25 : decode cX10_knotIs 25 = .ok (.tableswitch 101 0 6 #[43, 50, 57, 64, 71, 77, 87], 43) := by decide +kernel
theorem dX10_knotIs_68 : decode cX10_knotIs 68 = .ok (.aload_n 3, 1) := by decide +kernel
theorem dX10_knotIs_69 : decode cX10_knotIs 69 = .ok (.getfield 84, 3) := by decide +kernel
theorem dX10_knotIs_72 : decode cX10_knotIs 72 = .ok (.iload_n 1, 1) := by decide +kernel
theorem dX10_knotIs_73 : decode cX10_knotIs 73 = .ok (.iaload, 1) := by decide +kernel
theorem dX10_knotIs_74 : decode cX10_knotIs 74 = .ok (.ireturn, 1) := by decide +kernel
theorem dX10_knotIs_75 : decode cX10_knotIs 75 = .ok (.aload_n 3, 1) := by decide +kernel
theorem dX10_knotIs_76 : decode cX10_knotIs 76 = .ok (.getfield 87, 3) := by decide +kernel
theorem dX10_knotIs_79 : decode cX10_knotIs 79 = .ok (.iload_n 1, 1) := by decide +kernel
theorem dX10_knotIs_80 : decode cX10_knotIs 80 = .ok (.iaload, 1) := by decide +kernel
theorem dX10_knotIs_81 : decode cX10_knotIs 81 = .ok (.ireturn, 1) := by decide +kernel
theorem dX10_knotIs_82 : decode cX10_knotIs 82 = .ok (.aload_n 3, 1) := by decide +kernel
theorem dX10_knotIs_83 : decode cX10_knotIs 83 = .ok (.getfield 94, 3) := by decide +kernel
theorem dX10_knotIs_86 : decode cX10_knotIs 86 = .ok (.iload_n 1, 1) := by decide +kernel
theorem dX10_knotIs_87 : decode cX10_knotIs 87 = .ok (.iaload, 1) := by decide +kernel
theorem dX10_knotIs_88 : decode cX10_knotIs 88 = .ok (.ireturn, 1) := by decide +kernel
theorem dX10_knotIs_89 : decode cX10_knotIs 89 = .ok (.aload_n 3, 1) := by decide +kernel
theorem dX10_knotIs_90 : decode cX10_knotIs 90 = .ok (.getfield 97, 3) := by decide +kernel
theorem dX10_knotIs_93 : decode cX10_knotIs 93 = .ok (.iload_n 1, 1) := by decide +kernel
theorem dX10_knotIs_94 : decode cX10_knotIs 94 = .ok (.iaload, 1) := by decide +kernel
theorem dX10_knotIs_95 : decode cX10_knotIs 95 = .ok (.ireturn, 1) := by decide +kernel
theorem dX10_knotIs_96 : decode cX10_knotIs 96 = .ok (.aload_n 3, 1) := by decide +kernel
theorem dX10_knotIs_97 : decode cX10_knotIs 97 = .ok (.iload_n 1, 1) := by decide +kernel
theorem dX10_knotIs_98 : decode cX10_knotIs 98 = .ok (.invokevirtual 100, 3) := by decide +kernel
theorem dX10_knotIs_101 : decode cX10_knotIs 101 = .ok (.ireturn, 1) := by decide +kernel
theorem dX10_knotIs_102 : decode cX10_knotIs 102 = .ok (.aload_n 3, 1) := by decide +kernel
theorem dX10_knotIs_103 : decode cX10_knotIs 103 = .ok (.getfield 84, 3) := by decide +kernel
theorem dX10_knotIs_106 : decode cX10_knotIs 106 = .ok (.iload_n 1, 1) := by decide +kernel
theorem dX10_knotIs_107 : decode cX10_knotIs 107 = .ok (.iaload, 1) := by decide +kernel
theorem dX10_knotIs_108 : decode cX10_knotIs 108 = .ok (.invokestatic 103, 3) := by decide +kernel
theorem dX10_knotIs_111 : decode cX10_knotIs 111 = .ok (.ireturn, 1) := by decide +kernel
theorem dX10_knotIs_112 : decode cX10_knotIs 112 = .ok (.aload_n 3, 1) := by decide +kernel
theorem dX10_knotIs_113 : decode cX10_knotIs 113 = .ok (.getfield 108, 3) := by decide +kernel
theorem dX10_knotIs_116 : decode cX10_knotIs 116 = .ok (.iconst 1, 1) := by decide +kernel
theorem dX10_knotIs_117 : decode cX10_knotIs 117 = .ok (.iload_n 1, 1) := by decide +kernel
theorem dX10_knotIs_118 : decode cX10_knotIs 118 = .ok (.ishl, 1) := by decide +kernel
theorem dX10_knotIs_119 : decode cX10_knotIs 119 = .ok (.invokestatic 111, 3) := by decide +kernel
theorem dX10_knotIs_122 : decode cX10_knotIs 122 = .ok (.invokestatic 117, 3) := by decide +kernel
theorem dX10_knotIs_125 : decode cX10_knotIs 125 = .ok (.ireturn, 1) := by decide +kernel
theorem dX10_knotIs_126 : decode cX10_knotIs 126 = .ok (.aload_n 0, 1) := by decide +kernel
theorem dX10_knotIs_127 : decode cX10_knotIs 127 = .ok (.ldc 76, 2) := by decide +kernel
theorem dX10_knotIs_129 : decode cX10_knotIs 129 = .ok (.invokevirtual 77, 3) := by decide +kernel
theorem dX10_knotIs_132 : decode cX10_knotIs 132 = .ok (.ireturn, 1) := by decide +kernel
theorem dX10_as_0 : decode cX10_as 0 = .ok (.iload_n 1, 1) := by decide +kernel
theorem dX10_as_1 : decode cX10_as 1 = .ok (.bipush 20, 2) := by decide +kernel
theorem dX10_as_3 : decode cX10_as 3 = .ok (.invokestatic 72, 3) := by decide +kernel
theorem dX10_as_6 : decode cX10_as 6 = .ok (.ifCond .eq 12, 3) := by decide +kernel
theorem dX10_as_9 : decode cX10_as 9 = .ok (.iload_n 2, 1) := by decide +kernel
theorem dX10_as_10 : decode cX10_as 10 = .ok (.bipush 7, 2) := by decide +kernel
theorem dX10_as_12 : decode cX10_as 12 = .ok (.invokestatic 72, 3) := by decide +kernel
theorem dX10_as_15 : decode cX10_as 15 = .ok (.ifCond .ne 10, 3) := by decide +kernel
theorem dX10_as_18 : decode cX10_as 18 = .ok (.aload_n 0, 1) := by decide +kernel
theorem dX10_as_19 : decode cX10_as 19 = .ok (.ldc 76, 2) := by decide +kernel
theorem dX10_as_21 : decode cX10_as 21 = .ok (.invokevirtual 77, 3) := by decide +kernel
theorem dX10_as_24 : decode cX10_as 24 = .ok (.ireturn, 1) := by decide +kernel
theorem dX10_as_25 : decode cX10_as 25 = .ok (.aload_n 0, 1) := by decide +kernel
theorem dX10_as_26 : decode cX10_as 26 = .ok (.getfield 12, 3) := by decide +kernel
theorem dX10_as_29 : decode cX10_as 29 = .ok (.getfield 81, 3) := by decide +kernel
theorem dX10_as_32 : decode cX10_as 32 = .ok (.getfield 84, 3) := by decide +kernel
theorem dX10_as_35 : decode cX10_as 35 = .ok (.iload_n 1, 1) := by decide +kernel
theorem dX10_as_36 : decode cX10_as 36 = .ok (.iaload, 1) := by decide +kernel
theorem dX10_as_37 : decode cX10_as 37 = .ok (.iload_n 2, 1) := by decide +kernel
theorem dX10_as_38 : decode cX10_as 38 = .ok (.invokestatic 122, 3) := by decide +kernel
theorem dX10_as_41 : decode cX10_as 41 = .ok (.ifCond .ne 10, 3) := by decide +kernel
theorem dX10_as_44 : decode cX10_as 44 = .ok (.aload_n 0, 1) := by decide +kernel
theorem dX10_as_45 : decode cX10_as 45 = .ok (.ldc 125, 2) := by decide +kernel
theorem dX10_as_47 : decode cX10_as 47 = .ok (.invokevirtual 77, 3) := by decide +kernel
theorem dX10_as_50 : decode cX10_as 50 = .ok (.ireturn, 1) := by decide +kernel
theorem dX10_as_51 : decode cX10_as 51 = .ok (.aload_n 0, 1) := by decide +kernel
theorem dX10_as_52 : decode cX10_as 52 = .ok (.getfield 12, 3) := by decide +kernel
theorem dX10_as_55 : decode cX10_as 55 = .ok (.getfield 81, 3) := by decide +kernel
theorem dX10_as_58 : decode cX10_as 58 = .ok (.iload_n 1, 1) := by decide +kernel
theorem dX10_as_59 : decode cX10_as 59 = .ok (.invokevirtual 100, 3) := by decide +kernel
theorem dX10_as_62 : decode cX10_as 62 = .ok (.ireturn, 1) := by decide +kernel
theorem dX10_threadIs_0 : decode cX10_threadIs 0 = .ok (.iload_n 1, 1) := by decide +kernel
theorem dX10_threadIs_1 : decode cX10_threadIs 1 = .ok (.bipush 31, 2) := by decide +kernel
theorem dX10_threadIs_3 : decode cX10_threadIs 3 = .ok (.invokestatic 72, 3) := by decide +kernel
theorem dX10_threadIs_6 : decode cX10_threadIs 6 = .ok (.ifCond .eq 12, 3) := by decide +kernel
theorem dX10_threadIs_9 : decode cX10_threadIs 9 = .ok (.iload_n 2, 1) := by decide +kernel
theorem dX10_threadIs_10 : decode cX10_threadIs 10 = .ok (.bipush 6, 2) := by decide +kernel
theorem dX10_threadIs_12 : decode cX10_threadIs 12 = .ok (.invokestatic 72, 3) := by decide +kernel
theorem dX10_threadIs_15 : decode cX10_threadIs 15 = .ok (.ifCond .ne 10, 3) := by decide +kernel
theorem dX10_threadIs_18 : decode cX10_threadIs 18 = .ok (.aload_n 0, 1) := by decide +kernel
theorem dX10_threadIs_19 : decode cX10_threadIs 19 = .ok (.ldc 76, 2) := by decide +kernel
theorem dX10_threadIs_21 : decode cX10_threadIs 21 = .ok (.invokevirtual 77, 3) := by decide +kernel
theorem dX10_threadIs_24 : decode cX10_threadIs 24 = .ok (.ireturn, 1) := by decide +kernel
theorem dX10_threadIs_25 : decode cX10_threadIs 25 = .ok (.aload_n 0, 1) := by decide +kernel
theorem dX10_threadIs_26 : decode cX10_threadIs 26 = .ok (.getfield 12, 3) := by decide +kernel
theorem dX10_threadIs_29 : decode cX10_threadIs 29 = .ok (.getfield 81, 3) := by decide +kernel
theorem dX10_threadIs_32 : decode cX10_threadIs 32 = .ok (.iload_n 1, 1) := by decide +kernel
theorem dX10_threadIs_33 : decode cX10_threadIs 33 = .ok (.iload_n 2, 1) := by decide +kernel
theorem dX10_threadIs_34 : decode cX10_threadIs 34 = .ok (.invokevirtual 126, 3) := by decide +kernel
theorem dX10_threadIs_37 : decode cX10_threadIs 37 = .ok (.ireturn, 1) := by decide +kernel
theorem dX10_cut_0 : decode cX10_cut 0 = .ok (.iload_n 1, 1) := by decide +kernel
theorem dX10_cut_1 : decode cX10_cut 1 = .ok (.bipush 31, 2) := by decide +kernel
theorem dX10_cut_3 : decode cX10_cut 3 = .ok (.invokestatic 72, 3) := by decide +kernel
theorem dX10_cut_6 : decode cX10_cut 6 = .ok (.ifCond .ne 10, 3) := by decide +kernel
theorem dX10_cut_9 : decode cX10_cut 9 = .ok (.aload_n 0, 1) := by decide +kernel
theorem dX10_cut_10 : decode cX10_cut 10 = .ok (.ldc 76, 2) := by decide +kernel
theorem dX10_cut_12 : decode cX10_cut 12 = .ok (.invokevirtual 77, 3) := by decide +kernel
theorem dX10_cut_15 : decode cX10_cut 15 = .ok (.ireturn, 1) := by decide +kernel
theorem dX10_cut_16 : decode cX10_cut 16 = .ok (.aload_n 0, 1) := by decide +kernel
theorem dX10_cut_17 : decode cX10_cut 17 = .ok (.getfield 12, 3) := by decide +kernel
theorem dX10_cut_20 : decode cX10_cut 20 = .ok (.getfield 81, 3) := by decide +kernel
theorem dX10_cut_23 : decode cX10_cut 23 = .ok (.iload_n 1, 1) := by decide +kernel
theorem dX10_cut_24 : decode cX10_cut 24 = .ok (.invokevirtual 129, 3) := by decide +kernel
theorem dX10_cut_27 : decode cX10_cut 27 = .ok (.ifCond .eq 10, 3) := by decide +kernel
theorem dX10_cut_30 : decode cX10_cut 30 = .ok (.aload_n 0, 1) := by decide +kernel
theorem dX10_cut_31 : decode cX10_cut 31 = .ok (.ldc 133, 2) := by decide +kernel
theorem dX10_cut_33 : decode cX10_cut 33 = .ok (.invokevirtual 77, 3) := by decide +kernel
theorem dX10_cut_36 : decode cX10_cut 36 = .ok (.ireturn, 1) := by decide +kernel
theorem dX10_cut_37 : decode cX10_cut 37 = .ok (.aload_n 0, 1) := by decide +kernel
theorem dX10_cut_38 : decode cX10_cut 38 = .ok (.getfield 12, 3) := by decide +kernel
theorem dX10_cut_41 : decode cX10_cut 41 = .ok (.getfield 81, 3) := by decide +kernel
theorem dX10_cut_44 : decode cX10_cut 44 = .ok (.iload_n 1, 1) := by decide +kernel
theorem dX10_cut_45 : decode cX10_cut 45 = .ok (.invokevirtual 134, 3) := by decide +kernel
theorem dX10_cut_48 : decode cX10_cut 48 = .ok (.aload_n 0, 1) := by decide +kernel
theorem dX10_cut_49 : decode cX10_cut 49 = .ok (.getfield 12, 3) := by decide +kernel
theorem dX10_cut_52 : decode cX10_cut 52 = .ok (.getfield 81, 3) := by decide +kernel
theorem dX10_cut_55 : decode cX10_cut 55 = .ok (.invokevirtual 138, 3) := by decide +kernel
theorem dX10_cut_58 : decode cX10_cut 58 = .ok (.ireturn, 1) := by decide +kernel
theorem dX10_wear_0 : decode cX10_wear 0 = .ok (.iload_n 1, 1) := by decide +kernel
theorem dX10_wear_1 : decode cX10_wear 1 = .ok (.bipush 31, 2) := by decide +kernel
theorem dX10_wear_3 : decode cX10_wear 3 = .ok (.invokestatic 72, 3) := by decide +kernel
theorem dX10_wear_6 : decode cX10_wear 6 = .ok (.ifCond .eq 13, 3) := by decide +kernel
theorem dX10_wear_9 : decode cX10_wear 9 = .ok (.iload_n 2, 1) := by decide +kernel
theorem dX10_wear_10 : decode cX10_wear 10 = .ok (.iconst 0, 1) := by decide +kernel
theorem dX10_wear_11 : decode cX10_wear 11 = .ok (.bipush 99, 2) := by decide +kernel
theorem dX10_wear_13 : decode cX10_wear 13 = .ok (.invokestatic 142, 3) := by decide +kernel
theorem dX10_wear_16 : decode cX10_wear 16 = .ok (.ifCond .ne 10, 3) := by decide +kernel
theorem dX10_wear_19 : decode cX10_wear 19 = .ok (.aload_n 0, 1) := by decide +kernel
theorem dX10_wear_20 : decode cX10_wear 20 = .ok (.ldc 76, 2) := by decide +kernel
theorem dX10_wear_22 : decode cX10_wear 22 = .ok (.invokevirtual 77, 3) := by decide +kernel
theorem dX10_wear_25 : decode cX10_wear 25 = .ok (.ireturn, 1) := by decide +kernel
theorem dX10_wear_26 : decode cX10_wear 26 = .ok (.aload_n 0, 1) := by decide +kernel
theorem dX10_wear_27 : decode cX10_wear 27 = .ok (.getfield 12, 3) := by decide +kernel
theorem dX10_wear_30 : decode cX10_wear 30 = .ok (.getfield 81, 3) := by decide +kernel
theorem dX10_wear_33 : decode cX10_wear 33 = .ok (.iload_n 1, 1) := by decide +kernel
theorem dX10_wear_34 : decode cX10_wear 34 = .ok (.invokevirtual 129, 3) := by decide +kernel
theorem dX10_wear_37 : decode cX10_wear 37 = .ok (.ifCond .eq 10, 3) := by decide +kernel
theorem dX10_wear_40 : decode cX10_wear 40 = .ok (.aload_n 0, 1) := by decide +kernel
theorem dX10_wear_41 : decode cX10_wear 41 = .ok (.ldc 133, 2) := by decide +kernel
theorem dX10_wear_43 : decode cX10_wear 43 = .ok (.invokevirtual 77, 3) := by decide +kernel
theorem dX10_wear_46 : decode cX10_wear 46 = .ok (.ireturn, 1) := by decide +kernel
theorem dX10_wear_47 : decode cX10_wear 47 = .ok (.aload_n 0, 1) := by decide +kernel
theorem dX10_wear_48 : decode cX10_wear 48 = .ok (.getfield 12, 3) := by decide +kernel
theorem dX10_wear_51 : decode cX10_wear 51 = .ok (.getfield 81, 3) := by decide +kernel
theorem dX10_wear_54 : decode cX10_wear 54 = .ok (.getfield 146, 3) := by decide +kernel
theorem dX10_wear_57 : decode cX10_wear 57 = .ok (.iload_n 1, 1) := by decide +kernel
theorem dX10_wear_58 : decode cX10_wear 58 = .ok (.iaload, 1) := by decide +kernel
theorem dX10_wear_59 : decode cX10_wear 59 = .ok (.istore_n 3, 1) := by decide +kernel
theorem dX10_wear_60 : decode cX10_wear 60 = .ok (.aload_n 0, 1) := by decide +kernel
theorem dX10_wear_61 : decode cX10_wear 61 = .ok (.getfield 12, 3) := by decide +kernel
theorem dX10_wear_64 : decode cX10_wear 64 = .ok (.getfield 81, 3) := by decide +kernel
theorem dX10_wear_67 : decode cX10_wear 67 = .ok (.getfield 146, 3) := by decide +kernel
theorem dX10_wear_70 : decode cX10_wear 70 = .ok (.iload_n 1, 1) := by decide +kernel
theorem dX10_wear_71 : decode cX10_wear 71 = .ok (.iload_n 2, 1) := by decide +kernel
theorem dX10_wear_72 : decode cX10_wear 72 = .ok (.iastore, 1) := by decide +kernel
theorem dX10_wear_73 : decode cX10_wear 73 = .ok (.iload_n 3, 1) := by decide +kernel
theorem dX10_wear_74 : decode cX10_wear 74 = .ok (.ireturn, 1) := by decide +kernel
theorem dX10_twine_0 : decode cX10_twine 0 = .ok (.iload_n 1, 1) := by decide +kernel
theorem dX10_twine_1 : decode cX10_twine 1 = .ok (.iconst 0, 1) := by decide +kernel
theorem dX10_twine_2 : decode cX10_twine 2 = .ok (.sipush 9999, 3) := by decide +kernel
theorem dX10_twine_5 : decode cX10_twine 5 = .ok (.invokestatic 142, 3) := by decide +kernel
theorem dX10_twine_8 : decode cX10_twine 8 = .ok (.ifCond .ne 10, 3) := by decide +kernel
theorem dX10_twine_11 : decode cX10_twine 11 = .ok (.aload_n 0, 1) := by decide +kernel
theorem dX10_twine_12 : decode cX10_twine 12 = .ok (.ldc 76, 2) := by decide +kernel
theorem dX10_twine_14 : decode cX10_twine 14 = .ok (.invokevirtual 77, 3) := by decide +kernel
theorem dX10_twine_17 : decode cX10_twine 17 = .ok (.ireturn, 1) := by decide +kernel
theorem dX10_twine_18 : decode cX10_twine 18 = .ok (.aload_n 0, 1) := by decide +kernel
theorem dX10_twine_19 : decode cX10_twine 19 = .ok (.getfield 12, 3) := by decide +kernel
theorem dX10_twine_22 : decode cX10_twine 22 = .ok (.getfield 149, 3) := by decide +kernel
theorem dX10_twine_25 : decode cX10_twine 25 = .ok (.istore_n 2, 1) := by decide +kernel
theorem dX10_twine_26 : decode cX10_twine 26 = .ok (.aload_n 0, 1) := by decide +kernel
theorem dX10_twine_27 : decode cX10_twine 27 = .ok (.getfield 12, 3) := by decide +kernel
theorem dX10_twine_30 : decode cX10_twine 30 = .ok (.iload_n 1, 1) := by decide +kernel
theorem dX10_twine_31 : decode cX10_twine 31 = .ok (.putfield 149, 3) := by decide +kernel
theorem dX10_twine_34 : decode cX10_twine 34 = .ok (.iload_n 2, 1) := by decide +kernel
theorem dX10_twine_35 : decode cX10_twine 35 = .ok (.ireturn, 1) := by decide +kernel
theorem dX10_speed_0 : decode cX10_speed 0 = .ok (.iload_n 1, 1) := by decide +kernel
theorem dX10_speed_1 : decode cX10_speed 1 = .ok (.iconst 3, 1) := by decide +kernel
theorem dX10_speed_2 : decode cX10_speed 2 = .ok (.invokestatic 72, 3) := by decide +kernel
theorem dX10_speed_5 : decode cX10_speed 5 = .ok (.ifCond .eq 13, 3) := by decide +kernel
theorem dX10_speed_8 : decode cX10_speed 8 = .ok (.iload_n 2, 1) := by decide +kernel
theorem dX10_speed_9 : decode cX10_speed 9 = .ok (.iconst 1, 1) := by decide +kernel
theorem dX10_speed_10 : decode cX10_speed 10 = .ok (.bipush 30, 2) := by decide +kernel
theorem dX10_speed_12 : decode cX10_speed 12 = .ok (.invokestatic 142, 3) := by decide +kernel
theorem dX10_speed_15 : decode cX10_speed 15 = .ok (.ifCond .ne 10, 3) := by decide +kernel
theorem dX10_speed_18 : decode cX10_speed 18 = .ok (.aload_n 0, 1) := by decide +kernel
theorem dX10_speed_19 : decode cX10_speed 19 = .ok (.ldc 76, 2) := by decide +kernel
theorem dX10_speed_21 : decode cX10_speed 21 = .ok (.invokevirtual 77, 3) := by decide +kernel
theorem dX10_speed_24 : decode cX10_speed 24 = .ok (.ireturn, 1) := by decide +kernel
theorem dX10_speed_25 : decode cX10_speed 25 = .ok (.aload_n 0, 1) := by decide +kernel
theorem dX10_speed_26 : decode cX10_speed 26 = .ok (.getfield 12, 3) := by decide +kernel
theorem dX10_speed_29 : decode cX10_speed 29 = .ok (.getfield 152, 3) := by decide +kernel
theorem dX10_speed_32 : decode cX10_speed 32 = .ok (.iload_n 1, 1) := by decide +kernel
theorem dX10_speed_33 : decode cX10_speed 33 = .ok (.iaload, 1) := by decide +kernel
theorem dX10_speed_34 : decode cX10_speed 34 = .ok (.istore_n 3, 1) := by decide +kernel
theorem dX10_speed_35 : decode cX10_speed 35 = .ok (.aload_n 0, 1) := by decide +kernel
theorem dX10_speed_36 : decode cX10_speed 36 = .ok (.getfield 12, 3) := by decide +kernel
theorem dX10_speed_39 : decode cX10_speed 39 = .ok (.getfield 152, 3) := by decide +kernel
theorem dX10_speed_42 : decode cX10_speed 42 = .ok (.iload_n 1, 1) := by decide +kernel
theorem dX10_speed_43 : decode cX10_speed 43 = .ok (.iload_n 2, 1) := by decide +kernel
theorem dX10_speed_44 : decode cX10_speed 44 = .ok (.iastore, 1) := by decide +kernel
theorem dX10_speed_45 : decode cX10_speed 45 = .ok (.iload_n 3, 1) := by decide +kernel
theorem dX10_speed_46 : decode cX10_speed 46 = .ok (.ireturn, 1) := by decide +kernel
theorem dX10_feed_0 : decode cX10_feed 0 = .ok (.iload_n 3, 1) := by decide +kernel
theorem dX10_feed_1 : decode cX10_feed 1 = .ok (.iconst 1, 1) := by decide +kernel
theorem dX10_feed_2 : decode cX10_feed 2 = .ok (.bipush 8, 2) := by decide +kernel
theorem dX10_feed_4 : decode cX10_feed 4 = .ok (.invokestatic 142, 3) := by decide +kernel
theorem dX10_feed_7 : decode cX10_feed 7 = .ok (.ifCond .ne 10, 3) := by decide +kernel
theorem dX10_feed_10 : decode cX10_feed 10 = .ok (.aload_n 0, 1) := by decide +kernel
theorem dX10_feed_11 : decode cX10_feed 11 = .ok (.ldc 76, 2) := by decide +kernel
theorem dX10_feed_13 : decode cX10_feed 13 = .ok (.invokevirtual 77, 3) := by decide +kernel
theorem dX10_feed_16 : decode cX10_feed 16 = .ok (.ireturn, 1) := by decide +kernel
theorem dX10_feed_17 : decode cX10_feed 17 = .ok (.iload_n 3, 1) := by decide +kernel
theorem dX10_feed_18 : decode cX10_feed 18 = .ok (.bipush 60, 2) := by decide +kernel
theorem dX10_feed_20 : decode cX10_feed 20 = .ok (.aload_n 0, 1) := by decide +kernel
theorem dX10_feed_21 : decode cX10_feed 21 = .ok (.getfield 12, 3) := by decide +kernel
theorem dX10_feed_24 : decode cX10_feed 24 = .ok (.getfield 155, 3) := by decide +kernel
theorem dX10_feed_27 : decode cX10_feed 27 = .ok (.isub, 1) := by decide +kernel
theorem dX10_feed_28 : decode cX10_feed 28 = .ok (.if_icmp .le 10, 3) := by decide +kernel
theorem dX10_feed_31 : decode cX10_feed 31 = .ok (.aload_n 0, 1) := by decide +kernel
theorem dX10_feed_32 : decode cX10_feed 32 = .ok (.ldc 158, 2) := by decide +kernel
theorem dX10_feed_34 : decode cX10_feed 34 = .ok (.invokevirtual 77, 3) := by decide +kernel
theorem dX10_feed_37 : decode cX10_feed 37 = .ok (.ireturn, 1) := by decide +kernel
theorem dX10_feed_38 : decode cX10_feed 38 = .ok (.iconst 0, 1) := by decide +kernel
theorem dX10_feed_39 : decode cX10_feed 39 = .ok (.istore 4, 2) := by decide +kernel
theorem dX10_feed_41 : decode cX10_feed 41 = .ok (.iload 4, 2) := by decide +kernel
theorem dX10_feed_43 : decode cX10_feed 43 = .ok (.iload_n 3, 1) := by decide +kernel
theorem dX10_feed_44 : decode cX10_feed 44 = .ok (.if_icmp .ge 39, 3) := by decide +kernel
theorem dX10_feed_47 : decode cX10_feed 47 = .ok (.aload_n 0, 1) := by decide +kernel
theorem dX10_feed_48 : decode cX10_feed 48 = .ok (.getfield 12, 3) := by decide +kernel
theorem dX10_feed_51 : decode cX10_feed 51 = .ok (.getfield 159, 3) := by decide +kernel
theorem dX10_feed_54 : decode cX10_feed 54 = .ok (.aload_n 0, 1) := by decide +kernel
theorem dX10_feed_55 : decode cX10_feed 55 = .ok (.getfield 12, 3) := by decide +kernel
theorem dX10_feed_58 : decode cX10_feed 58 = .ok (.getfield 155, 3) := by decide +kernel
theorem dX10_feed_61 : decode cX10_feed 61 = .ok (.iload 4, 2) := by decide +kernel
theorem dX10_feed_63 : decode cX10_feed 63 = .ok (.iadd, 1) := by decide +kernel
theorem dX10_feed_64 : decode cX10_feed 64 = .ok (.lload_n 1, 1) := by decide +kernel
theorem dX10_feed_65 : decode cX10_feed 65 = .ok (.bipush 8, 2) := by decide +kernel
theorem dX10_feed_67 : decode cX10_feed 67 = .ok (.iload 4, 2) := by decide +kernel
theorem dX10_feed_69 : decode cX10_feed 69 = .ok (.imul, 1) := by decide +kernel
theorem dX10_feed_70 : decode cX10_feed 70 = .ok (.lushr, 1) := by decide +kernel
theorem dX10_feed_71 : decode cX10_feed 71 = .ok (.l2i, 1) := by decide +kernel
theorem dX10_feed_72 : decode cX10_feed 72 = .ok (.sipush 255, 3) := by decide +kernel
theorem dX10_feed_75 : decode cX10_feed 75 = .ok (.iand, 1) := by decide +kernel
theorem dX10_feed_76 : decode cX10_feed 76 = .ok (.iastore, 1) := by decide +kernel
theorem dX10_feed_77 : decode cX10_feed 77 = .ok (.iinc 4 1, 3) := by decide +kernel
theorem dX10_feed_80 : decode cX10_feed 80 = .ok (.goto (-39), 3) := by decide +kernel
theorem dX10_feed_83 : decode cX10_feed 83 = .ok (.aload_n 0, 1) := by decide +kernel
theorem dX10_feed_84 : decode cX10_feed 84 = .ok (.getfield 12, 3) := by decide +kernel
theorem dX10_feed_87 : decode cX10_feed 87 = .ok (.dup, 1) := by decide +kernel
theorem dX10_feed_88 : decode cX10_feed 88 = .ok (.getfield 155, 3) := by decide +kernel
theorem dX10_feed_91 : decode cX10_feed 91 = .ok (.iload_n 3, 1) := by decide +kernel
theorem dX10_feed_92 : decode cX10_feed 92 = .ok (.iadd, 1) := by decide +kernel
theorem dX10_feed_93 : decode cX10_feed 93 = .ok (.putfield 155, 3) := by decide +kernel
theorem dX10_feed_96 : decode cX10_feed 96 = .ok (.aload_n 0, 1) := by decide +kernel
theorem dX10_feed_97 : decode cX10_feed 97 = .ok (.getfield 12, 3) := by decide +kernel
theorem dX10_feed_100 : decode cX10_feed 100 = .ok (.getfield 155, 3) := by decide +kernel
theorem dX10_feed_103 : decode cX10_feed 103 = .ok (.ireturn, 1) := by decide +kernel
theorem dX10_text_0 : decode cX10_text 0 = .ok (.iload_n 1, 1) := by decide +kernel
theorem dX10_text_1 : decode cX10_text 1 = .ok (.iconst 2, 1) := by decide +kernel
theorem dX10_text_2 : decode cX10_text 2 = .ok (.invokestatic 72, 3) := by decide +kernel
theorem dX10_text_5 : decode cX10_text 5 = .ok (.ifCond .ne 10, 3) := by decide +kernel
theorem dX10_text_8 : decode cX10_text 8 = .ok (.aload_n 0, 1) := by decide +kernel
theorem dX10_text_9 : decode cX10_text 9 = .ok (.ldc 76, 2) := by decide +kernel
theorem dX10_text_11 : decode cX10_text 11 = .ok (.invokevirtual 77, 3) := by decide +kernel
theorem dX10_text_14 : decode cX10_text 14 = .ok (.ireturn, 1) := by decide +kernel
theorem dX10_text_15 : decode cX10_text 15 = .ok (.aload_n 0, 1) := by decide +kernel
theorem dX10_text_16 : decode cX10_text 16 = .ok (.getfield 32, 3) := by decide +kernel
theorem dX10_text_19 : decode cX10_text 19 = .ok (.aload_n 0, 1) := by decide +kernel
theorem dX10_text_20 : decode cX10_text 20 = .ok (.getfield 12, 3) := by decide +kernel
theorem dX10_text_23 : decode cX10_text 23 = .ok (.getfield 159, 3) := by decide +kernel
theorem dX10_text_26 : decode cX10_text 26 = .ok (.aload_n 0, 1) := by decide +kernel
theorem dX10_text_27 : decode cX10_text 27 = .ok (.getfield 12, 3) := by decide +kernel
theorem dX10_text_30 : decode cX10_text 30 = .ok (.getfield 155, 3) := by decide +kernel
theorem dX10_text_33 : decode cX10_text 33 = .ok (.iload_n 1, 1) := by decide +kernel
theorem dX10_text_34 : decode cX10_text 34 = .ok (.invokevirtual 162, 3) := by decide +kernel
theorem dX10_text_37 : decode cX10_text 37 = .ok (.istore_n 2, 1) := by decide +kernel
theorem dX10_text_38 : decode cX10_text 38 = .ok (.aload_n 0, 1) := by decide +kernel
theorem dX10_text_39 : decode cX10_text 39 = .ok (.getfield 12, 3) := by decide +kernel
theorem dX10_text_42 : decode cX10_text 42 = .ok (.iconst 0, 1) := by decide +kernel
theorem dX10_text_43 : decode cX10_text 43 = .ok (.putfield 155, 3) := by decide +kernel
theorem dX10_text_46 : decode cX10_text 46 = .ok (.iload_n 2, 1) := by decide +kernel
theorem dX10_text_47 : decode cX10_text 47 = .ok (.iconst (-1), 1) := by decide +kernel
theorem dX10_text_48 : decode cX10_text 48 = .ok (.if_icmp .eq 8, 3) := by decide +kernel
theorem dX10_text_51 : decode cX10_text 51 = .ok (.bipush (-10), 2) := by decide +kernel
theorem dX10_text_53 : decode cX10_text 53 = .ok (.iload_n 2, 1) := by decide +kernel
theorem dX10_text_54 : decode cX10_text 54 = .ok (.isub, 1) := by decide +kernel
theorem dX10_text_55 : decode cX10_text 55 = .ok (.ireturn, 1) := by decide +kernel
theorem dX10_text_56 : decode cX10_text 56 = .ok (.aload_n 0, 1) := by decide +kernel
theorem dX10_text_57 : decode cX10_text 57 = .ok (.getfield 12, 3) := by decide +kernel
theorem dX10_text_60 : decode cX10_text 60 = .ok (.getfield 81, 3) := by decide +kernel
theorem dX10_text_63 : decode cX10_text 63 = .ok (.iload_n 1, 1) := by decide +kernel
theorem dX10_text_64 : decode cX10_text 64 = .ok (.invokevirtual 166, 3) := by decide +kernel
theorem dX10_text_67 : decode cX10_text 67 = .ok (.aload_n 0, 1) := by decide +kernel
theorem dX10_text_68 : decode cX10_text 68 = .ok (.getfield 32, 3) := by decide +kernel
theorem dX10_text_71 : decode cX10_text 71 = .ok (.getfield 170, 3) := by decide +kernel
theorem dX10_text_74 : decode cX10_text 74 = .ok (.invokevirtual 174, 3) := by decide +kernel
theorem dX10_text_77 : decode cX10_text 77 = .ok (.iconst 1, 1) := by decide +kernel
theorem dX10_text_78 : decode cX10_text 78 = .ok (.ireturn, 1) := by decide +kernel
theorem dX10_untell_0 : decode cX10_untell 0 = .ok (.iload_n 1, 1) := by decide +kernel
theorem dX10_untell_1 : decode cX10_untell 1 = .ok (.iconst 2, 1) := by decide +kernel
theorem dX10_untell_2 : decode cX10_untell 2 = .ok (.invokestatic 72, 3) := by decide +kernel
theorem dX10_untell_5 : decode cX10_untell 5 = .ok (.ifCond .ne 10, 3) := by decide +kernel
theorem dX10_untell_8 : decode cX10_untell 8 = .ok (.aload_n 0, 1) := by decide +kernel
theorem dX10_untell_9 : decode cX10_untell 9 = .ok (.ldc 76, 2) := by decide +kernel
theorem dX10_untell_11 : decode cX10_untell 11 = .ok (.invokevirtual 77, 3) := by decide +kernel
theorem dX10_untell_14 : decode cX10_untell 14 = .ok (.ireturn, 1) := by decide +kernel
theorem dX10_untell_15 : decode cX10_untell 15 = .ok (.aload_n 0, 1) := by decide +kernel
theorem dX10_untell_16 : decode cX10_untell 16 = .ok (.getfield 12, 3) := by decide +kernel
theorem dX10_untell_19 : decode cX10_untell 19 = .ok (.getfield 81, 3) := by decide +kernel
theorem dX10_untell_22 : decode cX10_untell 22 = .ok (.iload_n 1, 1) := by decide +kernel
theorem dX10_untell_23 : decode cX10_untell 23 = .ok (.invokevirtual 166, 3) := by decide +kernel
theorem dX10_untell_26 : decode cX10_untell 26 = .ok (.astore_n 2, 1) := by decide +kernel
theorem dX10_untell_27 : decode cX10_untell 27 = .ok (.aload_n 2, 1) := by decide +kernel
theorem dX10_untell_28 : decode cX10_untell 28 = .ok (.invokevirtual 180, 3) := by decide +kernel
theorem dX10_untell_31 : decode cX10_untell 31 = .ok (.ifCond .eq 7, 3) := by decide +kernel
theorem dX10_untell_34 : decode cX10_untell 34 = .ok (.iconst 1, 1) := by decide +kernel
theorem dX10_untell_35 : decode cX10_untell 35 = .ok (.goto 4, 3) := by decide +kernel
theorem dX10_untell_38 : decode cX10_untell 38 = .ok (.iconst 0, 1) := by decide +kernel
theorem dX10_untell_39 : decode cX10_untell 39 = .ok (.istore_n 3, 1) := by decide +kernel
theorem dX10_untell_40 : decode cX10_untell 40 = .ok (.aload_n 2, 1) := by decide +kernel
theorem dX10_untell_41 : decode cX10_untell 41 = .ok (.invokevirtual 184, 3) := by decide +kernel
theorem dX10_untell_44 : decode cX10_untell 44 = .ok (.iload_n 3, 1) := by decide +kernel
theorem dX10_untell_45 : decode cX10_untell 45 = .ok (.ireturn, 1) := by decide +kernel
theorem dX10_run_0 : decode cX10_run 0 = .ok (.iload_n 1, 1) := by decide +kernel
theorem dX10_run_1 : decode cX10_run 1 = .ok (.iconst 4, 1) := by decide +kernel
theorem dX10_run_2 : decode cX10_run 2 = .ok (.invokestatic 72, 3) := by decide +kernel
theorem dX10_run_5 : decode cX10_run 5 = .ok (.ifCond .eq 11, 3) := by decide +kernel
theorem dX10_run_8 : decode cX10_run 8 = .ok (.iload_n 2, 1) := by decide +kernel
theorem dX10_run_9 : decode cX10_run 9 = .ok (.iconst 5, 1) := by decide +kernel
theorem dX10_run_10 : decode cX10_run 10 = .ok (.invokestatic 72, 3) := by decide +kernel
theorem dX10_run_13 : decode cX10_run 13 = .ok (.ifCond .ne 10, 3) := by decide +kernel
theorem dX10_run_16 : decode cX10_run 16 = .ok (.aload_n 0, 1) := by decide +kernel
theorem dX10_run_17 : decode cX10_run 17 = .ok (.ldc 76, 2) := by decide +kernel
theorem dX10_run_19 : decode cX10_run 19 = .ok (.invokevirtual 77, 3) := by decide +kernel
theorem dX10_run_22 : decode cX10_run 22 = .ok (.ireturn, 1) := by decide +kernel
theorem dX10_run_23 : decode cX10_run 23 = .ok (.aload_n 0, 1) := by decide +kernel
theorem dX10_run_24 : decode cX10_run 24 = .ok (.getfield 59, 3) := by decide +kernel
theorem dX10_run_27 : decode cX10_run 27 = .ok (.iload_n 1, 1) := by decide +kernel
theorem dX10_run_28 : decode cX10_run 28 = .ok (.aaload, 1) := by decide +kernel
theorem dX10_run_29 : decode cX10_run 29 = .ok (.astore_n 3, 1) := by decide +kernel
theorem dX10_run_30 : decode cX10_run 30 = .ok (.aload_n 3, 1) := by decide +kernel
theorem dX10_run_31 : decode cX10_run 31 = .ok (.invokevirtual 187, 3) := by decide +kernel
theorem dX10_run_34 : decode cX10_run 34 = .ok (.ifCond .ne 10, 3) := by decide +kernel
theorem dX10_run_37 : decode cX10_run 37 = .ok (.aload_n 3, 1) := by decide +kernel
theorem dX10_run_38 : decode cX10_run 38 = .ok (.getfield 189, 3) := by decide +kernel
theorem dX10_run_41 : decode cX10_run 41 = .ok (.ifCond .ne 10, 3) := by decide +kernel
theorem dX10_run_44 : decode cX10_run 44 = .ok (.aload_n 0, 1) := by decide +kernel
theorem dX10_run_45 : decode cX10_run 45 = .ok (.ldc 192, 2) := by decide +kernel
theorem dX10_run_47 : decode cX10_run 47 = .ok (.invokevirtual 77, 3) := by decide +kernel
theorem dX10_run_50 : decode cX10_run 50 = .ok (.ireturn, 1) := by decide +kernel
theorem dX10_run_51 : decode cX10_run 51 = .ok (.aload_n 0, 1) := by decide +kernel
theorem dX10_run_52 : decode cX10_run 52 = .ok (.getfield 12, 3) := by decide +kernel
theorem dX10_run_55 : decode cX10_run 55 = .ok (.getfield 81, 3) := by decide +kernel
theorem dX10_run_58 : decode cX10_run 58 = .ok (.aload_n 3, 1) := by decide +kernel
theorem dX10_run_59 : decode cX10_run 59 = .ok (.invokevirtual 193, 3) := by decide +kernel
theorem dX10_run_62 : decode cX10_run 62 = .ok (.istore 4, 2) := by decide +kernel
theorem dX10_run_64 : decode cX10_run 64 = .ok (.iload 4, 2) := by decide +kernel
theorem dX10_run_66 : decode cX10_run 66 = .ok (.aload_n 3, 1) := by decide +kernel
theorem dX10_run_67 : decode cX10_run 67 = .ok (.getfield 189, 3) := by decide +kernel
theorem dX10_run_70 : decode cX10_run 70 = .ok (.if_icmp .ge 9, 3) := by decide +kernel
theorem dX10_run_73 : decode cX10_run 73 = .ok (.bipush (-10), 2) := by decide +kernel
theorem dX10_run_75 : decode cX10_run 75 = .ok (.iload 4, 2) := by decide +kernel
theorem dX10_run_77 : decode cX10_run 77 = .ok (.isub, 1) := by decide +kernel
theorem dX10_run_78 : decode cX10_run 78 = .ok (.ireturn, 1) := by decide +kernel
theorem dX10_run_79 : decode cX10_run 79 = .ok (.aload_n 0, 1) := by decide +kernel
theorem dX10_run_80 : decode cX10_run 80 = .ok (.getfield 12, 3) := by decide +kernel
theorem dX10_run_83 : decode cX10_run 83 = .ok (.getfield 81, 3) := by decide +kernel
theorem dX10_run_86 : decode cX10_run 86 = .ok (.aload_n 3, 1) := by decide +kernel
theorem dX10_run_87 : decode cX10_run 87 = .ok (.invokevirtual 197, 3) := by decide +kernel
theorem dX10_run_90 : decode cX10_run 90 = .ok (.istore 5, 2) := by decide +kernel
theorem dX10_run_92 : decode cX10_run 92 = .ok (.iload 5, 2) := by decide +kernel
theorem dX10_run_94 : decode cX10_run 94 = .ok (.aload_n 0, 1) := by decide +kernel
theorem dX10_run_95 : decode cX10_run 95 = .ok (.getfield 12, 3) := by decide +kernel
theorem dX10_run_98 : decode cX10_run 98 = .ok (.getfield 149, 3) := by decide +kernel
theorem dX10_run_101 : decode cX10_run 101 = .ok (.if_icmp .le 10, 3) := by decide +kernel
theorem dX10_run_104 : decode cX10_run 104 = .ok (.aload_n 0, 1) := by decide +kernel
theorem dX10_run_105 : decode cX10_run 105 = .ok (.ldc 158, 2) := by decide +kernel
theorem dX10_run_107 : decode cX10_run 107 = .ok (.invokevirtual 77, 3) := by decide +kernel
theorem dX10_run_110 : decode cX10_run 110 = .ok (.ireturn, 1) := by decide +kernel
theorem dX10_run_111 : decode cX10_run 111 = .ok (.aload_n 0, 1) := by decide +kernel
theorem dX10_run_112 : decode cX10_run 112 = .ok (.getfield 12, 3) := by decide +kernel
theorem dX10_run_115 : decode cX10_run 115 = .ok (.dup, 1) := by decide +kernel
theorem dX10_run_116 : decode cX10_run 116 = .ok (.getfield 149, 3) := by decide +kernel
theorem dX10_run_119 : decode cX10_run 119 = .ok (.iload 5, 2) := by decide +kernel
theorem dX10_run_121 : decode cX10_run 121 = .ok (.isub, 1) := by decide +kernel
theorem dX10_run_122 : decode cX10_run 122 = .ok (.putfield 149, 3) := by decide +kernel
theorem dX10_run_125 : decode cX10_run 125 = .ok (.aload_n 0, 1) := by decide +kernel
theorem dX10_run_126 : decode cX10_run 126 = .ok (.getfield 12, 3) := by decide +kernel
theorem dX10_run_129 : decode cX10_run 129 = .ok (.getfield 81, 3) := by decide +kernel
theorem dX10_run_132 : decode cX10_run 132 = .ok (.aload_n 3, 1) := by decide +kernel
theorem dX10_run_133 : decode cX10_run 133 = .ok (.iload_n 2, 1) := by decide +kernel
theorem dX10_run_134 : decode cX10_run 134 = .ok (.invokevirtual 200, 3) := by decide +kernel
theorem dX10_run_137 : decode cX10_run 137 = .ok (.aload_n 3, 1) := by decide +kernel
theorem dX10_run_138 : decode cX10_run 138 = .ok (.getfield 189, 3) := by decide +kernel
theorem dX10_run_141 : decode cX10_run 141 = .ok (.iconst 1, 1) := by decide +kernel
theorem dX10_run_142 : decode cX10_run 142 = .ok (.isub, 1) := by decide +kernel
theorem dX10_run_143 : decode cX10_run 143 = .ok (.ireturn, 1) := by decide +kernel
theorem dX10_odd_0 : decode cX10_odd 0 = .ok (.iload_n 1, 1) := by decide +kernel
theorem dX10_odd_1 : decode cX10_odd 1 = .ok (.lookupswitch 66 #[(0, 27), (1, 44)], 27) := by decide +kernel
theorem dX10_odd_28 : decode cX10_odd 28 = .ok (.aload_n 0, 1) := by decide +kernel
theorem dX10_odd_29 : decode cX10_odd 29 = .ok (.getfield 12, 3) := by decide +kernel
theorem dX10_odd_32 : decode cX10_odd 32 = .ok (.getfield 81, 3) := by decide +kernel
theorem dX10_odd_35 : decode cX10_odd 35 = .ok (.getfield 108, 3) := by decide +kernel
theorem dX10_odd_38 : decode cX10_odd 38 = .ok (.invokestatic 204, 3) := by decide +kernel
theorem dX10_odd_41 : decode cX10_odd 41 = .ok (.invokestatic 117, 3) := by decide +kernel
theorem dX10_odd_44 : decode cX10_odd 44 = .ok (.ireturn, 1) := by decide +kernel
theorem dX10_odd_45 : decode cX10_odd 45 = .ok (.aload_n 0, 1) := by decide +kernel
theorem dX10_odd_46 : decode cX10_odd 46 = .ok (.getfield 12, 3) := by decide +kernel
theorem dX10_odd_49 : decode cX10_odd 49 = .ok (.getfield 81, 3) := by decide +kernel
theorem dX10_odd_52 : decode cX10_odd 52 = .ok (.getfield 108, 3) := by decide +kernel
theorem dX10_odd_55 : decode cX10_odd 55 = .ok (.invokestatic 207, 3) := by decide +kernel
theorem dX10_odd_58 : decode cX10_odd 58 = .ok (.ifCond .eq 7, 3) := by decide +kernel
theorem dX10_odd_61 : decode cX10_odd 61 = .ok (.iconst 1, 1) := by decide +kernel
theorem dX10_odd_62 : decode cX10_odd 62 = .ok (.goto 4, 3) := by decide +kernel
theorem dX10_odd_65 : decode cX10_odd 65 = .ok (.iconst 0, 1) := by decide +kernel
theorem dX10_odd_66 : decode cX10_odd 66 = .ok (.ireturn, 1) := by decide +kernel
theorem dX10_odd_67 : decode cX10_odd 67 = .ok (.aload_n 0, 1) := by decide +kernel
theorem dX10_odd_68 : decode cX10_odd 68 = .ok (.ldc 76, 2) := by decide +kernel
theorem dX10_odd_70 : decode cX10_odd 70 = .ok (.invokevirtual 77, 3) := by decide +kernel
theorem dX10_odd_73 : decode cX10_odd 73 = .ok (.ireturn, 1) := by decide +kernel
theorem dX10_cuts_0 : decode cX10_cuts 0 = .ok (.iload_n 1, 1) := by decide +kernel
theorem dX10_cuts_1 : decode cX10_cuts 1 = .ok (.iconst (-1), 1) := by decide +kernel
theorem dX10_cuts_2 : decode cX10_cuts 2 = .ok (.iconst 2, 1) := by decide +kernel
theorem dX10_cuts_3 : decode cX10_cuts 3 = .ok (.invokestatic 142, 3) := by decide +kernel
theorem dX10_cuts_6 : decode cX10_cuts 6 = .ok (.ifCond .ne 10, 3) := by decide +kernel
theorem dX10_cuts_9 : decode cX10_cuts 9 = .ok (.aload_n 0, 1) := by decide +kernel
theorem dX10_cuts_10 : decode cX10_cuts 10 = .ok (.ldc 76, 2) := by decide +kernel
theorem dX10_cuts_12 : decode cX10_cuts 12 = .ok (.invokevirtual 77, 3) := by decide +kernel
theorem dX10_cuts_15 : decode cX10_cuts 15 = .ok (.ireturn, 1) := by decide +kernel
theorem dX10_cuts_16 : decode cX10_cuts 16 = .ok (.aload_n 0, 1) := by decide +kernel
theorem dX10_cuts_17 : decode cX10_cuts 17 = .ok (.getfield 39, 3) := by decide +kernel
theorem dX10_cuts_20 : decode cX10_cuts 20 = .ok (.aload_n 0, 1) := by decide +kernel
theorem dX10_cuts_21 : decode cX10_cuts 21 = .ok (.getfield 12, 3) := by decide +kernel
theorem dX10_cuts_24 : decode cX10_cuts 24 = .ok (.getfield 81, 3) := by decide +kernel
theorem dX10_cuts_27 : decode cX10_cuts 27 = .ok (.getfield 108, 3) := by decide +kernel
theorem dX10_cuts_30 : decode cX10_cuts 30 = .ok (.invokevirtual 210, 3) := by decide +kernel
theorem dX10_cuts_33 : decode cX10_cuts 33 = .ok (.istore_n 2, 1) := by decide +kernel
theorem dX10_cuts_34 : decode cX10_cuts 34 = .ok (.iload_n 2, 1) := by decide +kernel
theorem dX10_cuts_35 : decode cX10_cuts 35 = .ok (.iconst (-1), 1) := by decide +kernel
theorem dX10_cuts_36 : decode cX10_cuts 36 = .ok (.if_icmp .eq 8, 3) := by decide +kernel
theorem dX10_cuts_39 : decode cX10_cuts 39 = .ok (.iload_n 1, 1) := by decide +kernel
theorem dX10_cuts_40 : decode cX10_cuts 40 = .ok (.iload_n 2, 1) := by decide +kernel
theorem dX10_cuts_41 : decode cX10_cuts 41 = .ok (.if_icmp .lt 10, 3) := by decide +kernel
theorem dX10_cuts_44 : decode cX10_cuts 44 = .ok (.aload_n 0, 1) := by decide +kernel
theorem dX10_cuts_45 : decode cX10_cuts 45 = .ok (.ldc 192, 2) := by decide +kernel
theorem dX10_cuts_47 : decode cX10_cuts 47 = .ok (.invokevirtual 77, 3) := by decide +kernel
theorem dX10_cuts_50 : decode cX10_cuts 50 = .ok (.ireturn, 1) := by decide +kernel
theorem dX10_cuts_51 : decode cX10_cuts 51 = .ok (.iload_n 1, 1) := by decide +kernel
theorem dX10_cuts_52 : decode cX10_cuts 52 = .ok (.ifCond .ge 7, 3) := by decide +kernel
theorem dX10_cuts_55 : decode cX10_cuts 55 = .ok (.iload_n 2, 1) := by decide +kernel
theorem dX10_cuts_56 : decode cX10_cuts 56 = .ok (.goto 12, 3) := by decide +kernel
theorem dX10_cuts_59 : decode cX10_cuts 59 = .ok (.aload_n 0, 1) := by decide +kernel
theorem dX10_cuts_60 : decode cX10_cuts 60 = .ok (.getfield 39, 3) := by decide +kernel
theorem dX10_cuts_63 : decode cX10_cuts 63 = .ok (.getfield 213, 3) := by decide +kernel
theorem dX10_cuts_66 : decode cX10_cuts 66 = .ok (.iload_n 1, 1) := by decide +kernel
theorem dX10_cuts_67 : decode cX10_cuts 67 = .ok (.iaload, 1) := by decide +kernel
theorem dX10_cuts_68 : decode cX10_cuts 68 = .ok (.ireturn, 1) := by decide +kernel
theorem dX10_way_0 : decode cX10_way 0 = .ok (.iload_n 1, 1) := by decide +kernel
theorem dX10_way_1 : decode cX10_way 1 = .ok (.ifCond .ge 10, 3) := by decide +kernel
theorem dX10_way_4 : decode cX10_way 4 = .ok (.aload_n 0, 1) := by decide +kernel
theorem dX10_way_5 : decode cX10_way 5 = .ok (.ldc 76, 2) := by decide +kernel
theorem dX10_way_7 : decode cX10_way 7 = .ok (.invokevirtual 77, 3) := by decide +kernel
theorem dX10_way_10 : decode cX10_way 10 = .ok (.ireturn, 1) := by decide +kernel
theorem dX10_way_11 : decode cX10_way 11 = .ok (.aload_n 0, 1) := by decide +kernel
theorem dX10_way_12 : decode cX10_way 12 = .ok (.getfield 12, 3) := by decide +kernel
theorem dX10_way_15 : decode cX10_way 15 = .ok (.getfield 81, 3) := by decide +kernel
theorem dX10_way_18 : decode cX10_way 18 = .ok (.getfield 108, 3) := by decide +kernel
theorem dX10_way_21 : decode cX10_way 21 = .ok (.invokestatic 207, 3) := by decide +kernel
theorem dX10_way_24 : decode cX10_way 24 = .ok (.ifCond .ne 10, 3) := by decide +kernel
theorem dX10_way_27 : decode cX10_way 27 = .ok (.aload_n 0, 1) := by decide +kernel
theorem dX10_way_28 : decode cX10_way 28 = .ok (.ldc 133, 2) := by decide +kernel
theorem dX10_way_30 : decode cX10_way 30 = .ok (.invokevirtual 77, 3) := by decide +kernel
theorem dX10_way_33 : decode cX10_way 33 = .ok (.ireturn, 1) := by decide +kernel
theorem dX10_way_34 : decode cX10_way 34 = .ok (.iload_n 1, 1) := by decide +kernel
theorem dX10_way_35 : decode cX10_way 35 = .ok (.aload_n 0, 1) := by decide +kernel
theorem dX10_way_36 : decode cX10_way 36 = .ok (.getfield 12, 3) := by decide +kernel
theorem dX10_way_39 : decode cX10_way 39 = .ok (.getfield 81, 3) := by decide +kernel
theorem dX10_way_42 : decode cX10_way 42 = .ok (.invokevirtual 138, 3) := by decide +kernel
theorem dX10_way_45 : decode cX10_way 45 = .ok (.if_icmp .le 10, 3) := by decide +kernel
theorem dX10_way_48 : decode cX10_way 48 = .ok (.aload_n 0, 1) := by decide +kernel
theorem dX10_way_49 : decode cX10_way 49 = .ok (.ldc 192, 2) := by decide +kernel
theorem dX10_way_51 : decode cX10_way 51 = .ok (.invokevirtual 77, 3) := by decide +kernel
theorem dX10_way_54 : decode cX10_way 54 = .ok (.ireturn, 1) := by decide +kernel
theorem dX10_way_55 : decode cX10_way 55 = .ok (.aload_n 0, 1) := by decide +kernel
theorem dX10_way_56 : decode cX10_way 56 = .ok (.getfield 12, 3) := by decide +kernel
theorem dX10_way_59 : decode cX10_way 59 = .ok (.getfield 81, 3) := by decide +kernel
theorem dX10_way_62 : decode cX10_way 62 = .ok (.getfield 108, 3) := by decide +kernel
theorem dX10_way_65 : decode cX10_way 65 = .ok (.iload_n 1, 1) := by decide +kernel
theorem dX10_way_66 : decode cX10_way 66 = .ok (.invokestatic 216, 3) := by decide +kernel
theorem dX10_way_69 : decode cX10_way 69 = .ok (.ireturn, 1) := by decide +kernel
theorem dX10_hole_0 : decode cX10_hole 0 = .ok (.iload_n 1, 1) := by decide +kernel
theorem dX10_hole_1 : decode cX10_hole 1 = .ok (.iconst (-1), 1) := by decide +kernel
theorem dX10_hole_2 : decode cX10_hole 2 = .ok (.if_icmp .ge 10, 3) := by decide +kernel
theorem dX10_hole_5 : decode cX10_hole 5 = .ok (.aload_n 0, 1) := by decide +kernel
theorem dX10_hole_6 : decode cX10_hole 6 = .ok (.ldc 76, 2) := by decide +kernel
theorem dX10_hole_8 : decode cX10_hole 8 = .ok (.invokevirtual 77, 3) := by decide +kernel
theorem dX10_hole_11 : decode cX10_hole 11 = .ok (.ireturn, 1) := by decide +kernel
theorem dX10_hole_12 : decode cX10_hole 12 = .ok (.aload_n 0, 1) := by decide +kernel
theorem dX10_hole_13 : decode cX10_hole 13 = .ok (.getfield 12, 3) := by decide +kernel
theorem dX10_hole_16 : decode cX10_hole 16 = .ok (.getfield 81, 3) := by decide +kernel
theorem dX10_hole_19 : decode cX10_hole 19 = .ok (.getfield 108, 3) := by decide +kernel
theorem dX10_hole_22 : decode cX10_hole 22 = .ok (.invokestatic 219, 3) := by decide +kernel
theorem dX10_hole_25 : decode cX10_hole 25 = .ok (.istore_n 2, 1) := by decide +kernel
theorem dX10_hole_26 : decode cX10_hole 26 = .ok (.iload_n 1, 1) := by decide +kernel
theorem dX10_hole_27 : decode cX10_hole 27 = .ok (.iload_n 2, 1) := by decide +kernel
theorem dX10_hole_28 : decode cX10_hole 28 = .ok (.if_icmp .lt 10, 3) := by decide +kernel
theorem dX10_hole_31 : decode cX10_hole 31 = .ok (.aload_n 0, 1) := by decide +kernel
theorem dX10_hole_32 : decode cX10_hole 32 = .ok (.ldc 192, 2) := by decide +kernel
theorem dX10_hole_34 : decode cX10_hole 34 = .ok (.invokevirtual 77, 3) := by decide +kernel
theorem dX10_hole_37 : decode cX10_hole 37 = .ok (.ireturn, 1) := by decide +kernel
theorem dX10_hole_38 : decode cX10_hole 38 = .ok (.iload_n 1, 1) := by decide +kernel
theorem dX10_hole_39 : decode cX10_hole 39 = .ok (.ifCond .ge 7, 3) := by decide +kernel
theorem dX10_hole_42 : decode cX10_hole 42 = .ok (.iload_n 2, 1) := by decide +kernel
theorem dX10_hole_43 : decode cX10_hole 43 = .ok (.goto 20, 3) := by decide +kernel
theorem dX10_hole_46 : decode cX10_hole 46 = .ok (.aload_n 0, 1) := by decide +kernel
theorem dX10_hole_47 : decode cX10_hole 47 = .ok (.getfield 12, 3) := by decide +kernel
theorem dX10_hole_50 : decode cX10_hole 50 = .ok (.getfield 81, 3) := by decide +kernel
theorem dX10_hole_53 : decode cX10_hole 53 = .ok (.getfield 108, 3) := by decide +kernel
theorem dX10_hole_56 : decode cX10_hole 56 = .ok (.iload_n 1, 1) := by decide +kernel
theorem dX10_hole_57 : decode cX10_hole 57 = .ok (.invokestatic 222, 3) := by decide +kernel
theorem dX10_hole_60 : decode cX10_hole 60 = .ok (.invokestatic 117, 3) := by decide +kernel
theorem dX10_hole_63 : decode cX10_hole 63 = .ok (.ireturn, 1) := by decide +kernel
theorem dX10_open_0 : decode cX10_open 0 = .ok (.aload_n 0, 1) := by decide +kernel
theorem dX10_open_1 : decode cX10_open 1 = .ok (.getfield 12, 3) := by decide +kernel
theorem dX10_open_4 : decode cX10_open 4 = .ok (.getfield 81, 3) := by decide +kernel
theorem dX10_open_7 : decode cX10_open 7 = .ok (.getfield 108, 3) := by decide +kernel
theorem dX10_open_10 : decode cX10_open 10 = .ok (.invokestatic 225, 3) := by decide +kernel
theorem dX10_open_13 : decode cX10_open 13 = .ok (.ireturn, 1) := by decide +kernel
theorem dX10_minutes_0 : decode cX10_minutes 0 = .ok (.iload_n 1, 1) := by decide +kernel
theorem dX10_minutes_1 : decode cX10_minutes 1 = .ok (.iconst (-1), 1) := by decide +kernel
theorem dX10_minutes_2 : decode cX10_minutes 2 = .ok (.if_icmp .ge 10, 3) := by decide +kernel
theorem dX10_minutes_5 : decode cX10_minutes 5 = .ok (.aload_n 0, 1) := by decide +kernel
theorem dX10_minutes_6 : decode cX10_minutes 6 = .ok (.ldc 76, 2) := by decide +kernel
theorem dX10_minutes_8 : decode cX10_minutes 8 = .ok (.invokevirtual 77, 3) := by decide +kernel
theorem dX10_minutes_11 : decode cX10_minutes 11 = .ok (.ireturn, 1) := by decide +kernel
theorem dX10_minutes_12 : decode cX10_minutes 12 = .ok (.aload_n 0, 1) := by decide +kernel
theorem dX10_minutes_13 : decode cX10_minutes 13 = .ok (.getfield 12, 3) := by decide +kernel
theorem dX10_minutes_16 : decode cX10_minutes 16 = .ok (.getfield 81, 3) := by decide +kernel
theorem dX10_minutes_19 : decode cX10_minutes 19 = .ok (.getfield 108, 3) := by decide +kernel
theorem dX10_minutes_22 : decode cX10_minutes 22 = .ok (.invokestatic 219, 3) := by decide +kernel
theorem dX10_minutes_25 : decode cX10_minutes 25 = .ok (.istore_n 2, 1) := by decide +kernel
theorem dX10_minutes_26 : decode cX10_minutes 26 = .ok (.iload_n 1, 1) := by decide +kernel
theorem dX10_minutes_27 : decode cX10_minutes 27 = .ok (.iload_n 2, 1) := by decide +kernel
theorem dX10_minutes_28 : decode cX10_minutes 28 = .ok (.if_icmp .lt 10, 3) := by decide +kernel
theorem dX10_minutes_31 : decode cX10_minutes 31 = .ok (.aload_n 0, 1) := by decide +kernel
theorem dX10_minutes_32 : decode cX10_minutes 32 = .ok (.ldc 192, 2) := by decide +kernel
theorem dX10_minutes_34 : decode cX10_minutes 34 = .ok (.invokevirtual 77, 3) := by decide +kernel
theorem dX10_minutes_37 : decode cX10_minutes 37 = .ok (.ireturn, 1) := by decide +kernel
theorem dX10_minutes_38 : decode cX10_minutes 38 = .ok (.iload_n 2, 1) := by decide +kernel
theorem dX10_minutes_39 : decode cX10_minutes 39 = .ok (.bipush 6, 2) := by decide +kernel
theorem dX10_minutes_41 : decode cX10_minutes 41 = .ok (.if_icmp .le 10, 3) := by decide +kernel
theorem dX10_minutes_44 : decode cX10_minutes 44 = .ok (.aload_n 0, 1) := by decide +kernel
theorem dX10_minutes_45 : decode cX10_minutes 45 = .ok (.ldc 158, 2) := by decide +kernel
theorem dX10_minutes_47 : decode cX10_minutes 47 = .ok (.invokevirtual 77, 3) := by decide +kernel
theorem dX10_minutes_50 : decode cX10_minutes 50 = .ok (.ireturn, 1) := by decide +kernel
theorem dX10_minutes_51 : decode cX10_minutes 51 = .ok (.aload_n 0, 1) := by decide +kernel
theorem dX10_minutes_52 : decode cX10_minutes 52 = .ok (.getfield 46, 3) := by decide +kernel
theorem dX10_minutes_55 : decode cX10_minutes 55 = .ok (.aload_n 0, 1) := by decide +kernel
theorem dX10_minutes_56 : decode cX10_minutes 56 = .ok (.getfield 12, 3) := by decide +kernel
theorem dX10_minutes_59 : decode cX10_minutes 59 = .ok (.getfield 81, 3) := by decide +kernel
theorem dX10_minutes_62 : decode cX10_minutes 62 = .ok (.getfield 108, 3) := by decide +kernel
theorem dX10_minutes_65 : decode cX10_minutes 65 = .ok (.iload_n 2, 1) := by decide +kernel
theorem dX10_minutes_66 : decode cX10_minutes 66 = .ok (.aload_n 0, 1) := by decide +kernel
theorem dX10_minutes_67 : decode cX10_minutes 67 = .ok (.getfield 12, 3) := by decide +kernel
theorem dX10_minutes_70 : decode cX10_minutes 70 = .ok (.getfield 152, 3) := by decide +kernel
theorem dX10_minutes_73 : decode cX10_minutes 73 = .ok (.invokevirtual 228, 3) := by decide +kernel
theorem dX10_minutes_76 : decode cX10_minutes 76 = .ok (.iload_n 1, 1) := by decide +kernel
theorem dX10_minutes_77 : decode cX10_minutes 77 = .ok (.ifCond .ge 13, 3) := by decide +kernel
theorem dX10_minutes_80 : decode cX10_minutes 80 = .ok (.aload_n 0, 1) := by decide +kernel
theorem dX10_minutes_81 : decode cX10_minutes 81 = .ok (.getfield 46, 3) := by decide +kernel
theorem dX10_minutes_84 : decode cX10_minutes 84 = .ok (.getfield 232, 3) := by decide +kernel
theorem dX10_minutes_87 : decode cX10_minutes 87 = .ok (.goto 12, 3) := by decide +kernel
theorem dX10_minutes_90 : decode cX10_minutes 90 = .ok (.aload_n 0, 1) := by decide +kernel
theorem dX10_minutes_91 : decode cX10_minutes 91 = .ok (.getfield 46, 3) := by decide +kernel
theorem dX10_minutes_94 : decode cX10_minutes 94 = .ok (.getfield 235, 3) := by decide +kernel
theorem dX10_minutes_97 : decode cX10_minutes 97 = .ok (.iload_n 1, 1) := by decide +kernel
theorem dX10_minutes_98 : decode cX10_minutes 98 = .ok (.iaload, 1) := by decide +kernel
theorem dX10_minutes_99 : decode cX10_minutes 99 = .ok (.ireturn, 1) := by decide +kernel
theorem dX10_days_0 : decode cX10_days 0 = .ok (.aload_n 0, 1) := by decide +kernel
theorem dX10_days_1 : decode cX10_days 1 = .ok (.iload_n 1, 1) := by decide +kernel
theorem dX10_days_2 : decode cX10_days 2 = .ok (.invokevirtual 238, 3) := by decide +kernel
theorem dX10_days_5 : decode cX10_days 5 = .ok (.istore_n 2, 1) := by decide +kernel
theorem dX10_days_6 : decode cX10_days 6 = .ok (.iload_n 2, 1) := by decide +kernel
theorem dX10_days_7 : decode cX10_days 7 = .ok (.ifCond .eq 9, 3) := by decide +kernel
theorem dX10_days_10 : decode cX10_days 10 = .ok (.aload_n 0, 1) := by decide +kernel
theorem dX10_days_11 : decode cX10_days 11 = .ok (.iload_n 2, 1) := by decide +kernel
theorem dX10_days_12 : decode cX10_days 12 = .ok (.invokevirtual 77, 3) := by decide +kernel
theorem dX10_days_15 : decode cX10_days 15 = .ok (.ireturn, 1) := by decide +kernel
theorem dX10_days_16 : decode cX10_days 16 = .ok (.aload_n 0, 1) := by decide +kernel
theorem dX10_days_17 : decode cX10_days 17 = .ok (.getfield 12, 3) := by decide +kernel
theorem dX10_days_20 : decode cX10_days 20 = .ok (.getfield 81, 3) := by decide +kernel
theorem dX10_days_23 : decode cX10_days 23 = .ok (.iload_n 1, 1) := by decide +kernel
theorem dX10_days_24 : decode cX10_days 24 = .ok (.invokevirtual 241, 3) := by decide +kernel
theorem dX10_days_27 : decode cX10_days 27 = .ok (.aload_n 0, 1) := by decide +kernel
theorem dX10_days_28 : decode cX10_days 28 = .ok (.getfield 12, 3) := by decide +kernel
theorem dX10_days_31 : decode cX10_days 31 = .ok (.getfield 81, 3) := by decide +kernel
theorem dX10_days_34 : decode cX10_days 34 = .ok (.invokevirtual 138, 3) := by decide +kernel
theorem dX10_days_37 : decode cX10_days 37 = .ok (.ireturn, 1) := by decide +kernel
theorem dX10_draws_0 : decode cX10_draws 0 = .ok (.aload_n 0, 1) := by decide +kernel
theorem dX10_draws_1 : decode cX10_draws 1 = .ok (.iload_n 1, 1) := by decide +kernel
theorem dX10_draws_2 : decode cX10_draws 2 = .ok (.invokevirtual 238, 3) := by decide +kernel
theorem dX10_draws_5 : decode cX10_draws 5 = .ok (.istore_n 2, 1) := by decide +kernel
theorem dX10_draws_6 : decode cX10_draws 6 = .ok (.iload_n 2, 1) := by decide +kernel
theorem dX10_draws_7 : decode cX10_draws 7 = .ok (.ifCond .eq 9, 3) := by decide +kernel
theorem dX10_draws_10 : decode cX10_draws 10 = .ok (.aload_n 0, 1) := by decide +kernel
theorem dX10_draws_11 : decode cX10_draws 11 = .ok (.iload_n 2, 1) := by decide +kernel
theorem dX10_draws_12 : decode cX10_draws 12 = .ok (.invokevirtual 77, 3) := by decide +kernel
theorem dX10_draws_15 : decode cX10_draws 15 = .ok (.ireturn, 1) := by decide +kernel
theorem dX10_draws_16 : decode cX10_draws 16 = .ok (.iconst 0, 1) := by decide +kernel
theorem dX10_draws_17 : decode cX10_draws 17 = .ok (.istore_n 3, 1) := by decide +kernel
theorem dX10_draws_18 : decode cX10_draws 18 = .ok (.iload_n 3, 1) := by decide +kernel
theorem dX10_draws_19 : decode cX10_draws 19 = .ok (.iload_n 1, 1) := by decide +kernel
theorem dX10_draws_20 : decode cX10_draws 20 = .ok (.if_icmp .ge 39, 3) := by decide +kernel
theorem dX10_draws_23 : decode cX10_draws 23 = .ok (.aload_n 0, 1) := by decide +kernel
theorem dX10_draws_24 : decode cX10_draws 24 = .ok (.getfield 12, 3) := by decide +kernel
theorem dX10_draws_27 : decode cX10_draws 27 = .ok (.getfield 81, 3) := by decide +kernel
theorem dX10_draws_30 : decode cX10_draws 30 = .ok (.aload_n 0, 1) := by decide +kernel
theorem dX10_draws_31 : decode cX10_draws 31 = .ok (.getfield 12, 3) := by decide +kernel
theorem dX10_draws_34 : decode cX10_draws 34 = .ok (.invokevirtual 244, 3) := by decide +kernel
theorem dX10_draws_37 : decode cX10_draws 37 = .ok (.bipush 31, 2) := by decide +kernel
theorem dX10_draws_39 : decode cX10_draws 39 = .ok (.irem, 1) := by decide +kernel
theorem dX10_draws_40 : decode cX10_draws 40 = .ok (.invokevirtual 134, 3) := by decide +kernel
theorem dX10_draws_43 : decode cX10_draws 43 = .ok (.aload_n 0, 1) := by decide +kernel
theorem dX10_draws_44 : decode cX10_draws 44 = .ok (.getfield 12, 3) := by decide +kernel
theorem dX10_draws_47 : decode cX10_draws 47 = .ok (.getfield 81, 3) := by decide +kernel
theorem dX10_draws_50 : decode cX10_draws 50 = .ok (.invokevirtual 247, 3) := by decide +kernel
theorem dX10_draws_53 : decode cX10_draws 53 = .ok (.iinc 3 1, 3) := by decide +kernel
theorem dX10_draws_56 : decode cX10_draws 56 = .ok (.goto (-38), 3) := by decide +kernel
theorem dX10_draws_59 : decode cX10_draws 59 = .ok (.aload_n 0, 1) := by decide +kernel
theorem dX10_draws_60 : decode cX10_draws 60 = .ok (.getfield 12, 3) := by decide +kernel
theorem dX10_draws_63 : decode cX10_draws 63 = .ok (.getfield 81, 3) := by decide +kernel
theorem dX10_draws_66 : decode cX10_draws 66 = .ok (.invokevirtual 138, 3) := by decide +kernel
theorem dX10_draws_69 : decode cX10_draws 69 = .ok (.ireturn, 1) := by decide +kernel
theorem dX10_seed_0 : decode cX10_seed 0 = .ok (.aload_n 0, 1) := by decide +kernel
theorem dX10_seed_1 : decode cX10_seed 1 = .ok (.getfield 12, 3) := by decide +kernel
theorem dX10_seed_4 : decode cX10_seed 4 = .ok (.getfield 250, 3) := by decide +kernel
theorem dX10_seed_7 : decode cX10_seed 7 = .ok (.istore_n 2, 1) := by decide +kernel
theorem dX10_seed_8 : decode cX10_seed 8 = .ok (.aload_n 0, 1) := by decide +kernel
theorem dX10_seed_9 : decode cX10_seed 9 = .ok (.getfield 12, 3) := by decide +kernel
theorem dX10_seed_12 : decode cX10_seed 12 = .ok (.iload_n 1, 1) := by decide +kernel
theorem dX10_seed_13 : decode cX10_seed 13 = .ok (.putfield 250, 3) := by decide +kernel
theorem dX10_seed_16 : decode cX10_seed 16 = .ok (.iload_n 2, 1) := by decide +kernel
theorem dX10_seed_17 : decode cX10_seed 17 = .ok (.ireturn, 1) := by decide +kernel
theorem dX10_then_0 : decode cX10_then 0 = .ok (.iload_n 1, 1) := by decide +kernel
theorem dX10_then_1 : decode cX10_then 1 = .ok (.iconst 0, 1) := by decide +kernel
theorem dX10_then_2 : decode cX10_then 2 = .ok (.bipush 60, 2) := by decide +kernel
theorem dX10_then_4 : decode cX10_then 4 = .ok (.invokestatic 142, 3) := by decide +kernel
theorem dX10_then_7 : decode cX10_then 7 = .ok (.ifCond .eq 21, 3) := by decide +kernel
theorem dX10_then_10 : decode cX10_then 10 = .ok (.iload_n 2, 1) := by decide +kernel
theorem dX10_then_11 : decode cX10_then 11 = .ok (.bipush 31, 2) := by decide +kernel
theorem dX10_then_13 : decode cX10_then 13 = .ok (.invokestatic 72, 3) := by decide +kernel
theorem dX10_then_16 : decode cX10_then 16 = .ok (.ifCond .eq 12, 3) := by decide +kernel
theorem dX10_then_19 : decode cX10_then 19 = .ok (.iload_n 3, 1) := by decide +kernel
theorem dX10_then_20 : decode cX10_then 20 = .ok (.bipush 6, 2) := by decide +kernel
theorem dX10_then_22 : decode cX10_then 22 = .ok (.invokestatic 72, 3) := by decide +kernel
theorem dX10_then_25 : decode cX10_then 25 = .ok (.ifCond .ne 10, 3) := by decide +kernel
theorem dX10_then_28 : decode cX10_then 28 = .ok (.aload_n 0, 1) := by decide +kernel
theorem dX10_then_29 : decode cX10_then 29 = .ok (.ldc 76, 2) := by decide +kernel
theorem dX10_then_31 : decode cX10_then 31 = .ok (.invokevirtual 77, 3) := by decide +kernel
theorem dX10_then_34 : decode cX10_then 34 = .ok (.ireturn, 1) := by decide +kernel
theorem dX10_then_35 : decode cX10_then 35 = .ok (.aload_n 0, 1) := by decide +kernel
theorem dX10_then_36 : decode cX10_then 36 = .ok (.getfield 22, 3) := by decide +kernel
theorem dX10_then_39 : decode cX10_then 39 = .ok (.aload_n 0, 1) := by decide +kernel
theorem dX10_then_40 : decode cX10_then 40 = .ok (.getfield 12, 3) := by decide +kernel
theorem dX10_then_43 : decode cX10_then 43 = .ok (.getfield 81, 3) := by decide +kernel
theorem dX10_then_46 : decode cX10_then 46 = .ok (.invokevirtual 253, 3) := by decide +kernel
theorem dX10_then_49 : decode cX10_then 49 = .ok (.aload_n 0, 1) := by decide +kernel
theorem dX10_then_50 : decode cX10_then 50 = .ok (.getfield 22, 3) := by decide +kernel
theorem dX10_then_53 : decode cX10_then 53 = .ok (.iload_n 1, 1) := by decide +kernel
theorem dX10_then_54 : decode cX10_then 54 = .ok (.invokevirtual 241, 3) := by decide +kernel
theorem dX10_then_57 : decode cX10_then 57 = .ok (.aload_n 0, 1) := by decide +kernel
theorem dX10_then_58 : decode cX10_then 58 = .ok (.getfield 22, 3) := by decide +kernel
theorem dX10_then_61 : decode cX10_then 61 = .ok (.iload_n 2, 1) := by decide +kernel
theorem dX10_then_62 : decode cX10_then 62 = .ok (.iload_n 3, 1) := by decide +kernel
theorem dX10_then_63 : decode cX10_then 63 = .ok (.invokevirtual 126, 3) := by decide +kernel
theorem dX10_then_66 : decode cX10_then 66 = .ok (.ireturn, 1) := by decide +kernel
theorem dX10_goes_0 : decode cX10_goes 0 = .ok (.iload_n 1, 1) := by decide +kernel
theorem dX10_goes_1 : decode cX10_goes 1 = .ok (.iconst 1, 1) := by decide +kernel
theorem dX10_goes_2 : decode cX10_goes 2 = .ok (.bipush 60, 2) := by decide +kernel
theorem dX10_goes_4 : decode cX10_goes 4 = .ok (.invokestatic 142, 3) := by decide +kernel
theorem dX10_goes_7 : decode cX10_goes 7 = .ok (.ifCond .eq 11, 3) := by decide +kernel
theorem dX10_goes_10 : decode cX10_goes 10 = .ok (.iload_n 2, 1) := by decide +kernel
theorem dX10_goes_11 : decode cX10_goes 11 = .ok (.iconst 2, 1) := by decide +kernel
theorem dX10_goes_12 : decode cX10_goes 12 = .ok (.invokestatic 72, 3) := by decide +kernel
theorem dX10_goes_15 : decode cX10_goes 15 = .ok (.ifCond .ne 10, 3) := by decide +kernel
theorem dX10_goes_18 : decode cX10_goes 18 = .ok (.aload_n 0, 1) := by decide +kernel
theorem dX10_goes_19 : decode cX10_goes 19 = .ok (.ldc 76, 2) := by decide +kernel
theorem dX10_goes_21 : decode cX10_goes 21 = .ok (.invokevirtual 77, 3) := by decide +kernel
theorem dX10_goes_24 : decode cX10_goes 24 = .ok (.ireturn, 1) := by decide +kernel
theorem dX10_goes_25 : decode cX10_goes 25 = .ok (.aload_n 0, 1) := by decide +kernel
theorem dX10_goes_26 : decode cX10_goes 26 = .ok (.getfield 22, 3) := by decide +kernel
theorem dX10_goes_29 : decode cX10_goes 29 = .ok (.aload_n 0, 1) := by decide +kernel
theorem dX10_goes_30 : decode cX10_goes 30 = .ok (.getfield 12, 3) := by decide +kernel
theorem dX10_goes_33 : decode cX10_goes 33 = .ok (.getfield 81, 3) := by decide +kernel
theorem dX10_goes_36 : decode cX10_goes 36 = .ok (.invokevirtual 253, 3) := by decide +kernel
theorem dX10_goes_39 : decode cX10_goes 39 = .ok (.iconst 1, 1) := by decide +kernel
theorem dX10_goes_40 : decode cX10_goes 40 = .ok (.istore_n 3, 1) := by decide +kernel
theorem dX10_goes_41 : decode cX10_goes 41 = .ok (.iload_n 3, 1) := by decide +kernel
theorem dX10_goes_42 : decode cX10_goes 42 = .ok (.iload_n 1, 1) := by decide +kernel
theorem dX10_goes_43 : decode cX10_goes 43 = .ok (.if_icmp .gt 57, 3) := by decide +kernel
theorem dX10_goes_46 : decode cX10_goes 46 = .ok (.aload_n 0, 1) := by decide +kernel
theorem dX10_goes_47 : decode cX10_goes 47 = .ok (.getfield 22, 3) := by decide +kernel
theorem dX10_goes_50 : decode cX10_goes 50 = .ok (.invokevirtual 247, 3) := by decide +kernel
theorem dX10_goes_53 : decode cX10_goes 53 = .ok (.aload_n 0, 1) := by decide +kernel
theorem dX10_goes_54 : decode cX10_goes 54 = .ok (.getfield 22, 3) := by decide +kernel
theorem dX10_goes_57 : decode cX10_goes 57 = .ok (.getfield 108, 3) := by decide +kernel
theorem dX10_goes_60 : decode cX10_goes 60 = .ok (.aload_n 0, 1) := by decide +kernel
theorem dX10_goes_61 : decode cX10_goes 61 = .ok (.getfield 12, 3) := by decide +kernel
theorem dX10_goes_64 : decode cX10_goes 64 = .ok (.getfield 81, 3) := by decide +kernel
theorem dX10_goes_67 : decode cX10_goes 67 = .ok (.getfield 108, 3) := by decide +kernel
theorem dX10_goes_70 : decode cX10_goes 70 = .ok (.iconst (-1), 1) := by decide +kernel
theorem dX10_goes_71 : decode cX10_goes 71 = .ok (.ixor, 1) := by decide +kernel
theorem dX10_goes_72 : decode cX10_goes 72 = .ok (.iand, 1) := by decide +kernel
theorem dX10_goes_73 : decode cX10_goes 73 = .ok (.istore 4, 2) := by decide +kernel
theorem dX10_goes_75 : decode cX10_goes 75 = .ok (.iload 4, 2) := by decide +kernel
theorem dX10_goes_77 : decode cX10_goes 77 = .ok (.ifCond .eq 17, 3) := by decide +kernel
theorem dX10_goes_80 : decode cX10_goes 80 = .ok (.iload_n 2, 1) := by decide +kernel
theorem dX10_goes_81 : decode cX10_goes 81 = .ok (.ifCond .ne 11, 3) := by decide +kernel
theorem dX10_goes_84 : decode cX10_goes 84 = .ok (.iload 4, 2) := by decide +kernel
theorem dX10_goes_86 : decode cX10_goes 86 = .ok (.invokestatic 256, 3) := by decide +kernel
theorem dX10_goes_89 : decode cX10_goes 89 = .ok (.goto 4, 3) := by decide +kernel
theorem dX10_goes_92 : decode cX10_goes 92 = .ok (.iload_n 3, 1) := by decide +kernel
theorem dX10_goes_93 : decode cX10_goes 93 = .ok (.ireturn, 1) := by decide +kernel
theorem dX10_goes_94 : decode cX10_goes 94 = .ok (.iinc 3 1, 3) := by decide +kernel
theorem dX10_goes_97 : decode cX10_goes 97 = .ok (.goto (-56), 3) := by decide +kernel
theorem dX10_goes_100 : decode cX10_goes 100 = .ok (.aload_n 0, 1) := by decide +kernel
theorem dX10_goes_101 : decode cX10_goes 101 = .ok (.ldc 192, 2) := by decide +kernel
theorem dX10_goes_103 : decode cX10_goes 103 = .ok (.invokevirtual 77, 3) := by decide +kernel
theorem dX10_goes_106 : decode cX10_goes 106 = .ok (.ireturn, 1) := by decide +kernel
theorem dX10_mendAhead_0 : decode cX10_mendAhead 0 = .ok (.iload_n 1, 1) := by decide +kernel
theorem dX10_mendAhead_1 : decode cX10_mendAhead 1 = .ok (.iconst 1, 1) := by decide +kernel
theorem dX10_mendAhead_2 : decode cX10_mendAhead 2 = .ok (.bipush 60, 2) := by decide +kernel
theorem dX10_mendAhead_4 : decode cX10_mendAhead 4 = .ok (.invokestatic 142, 3) := by decide +kernel
theorem dX10_mendAhead_7 : decode cX10_mendAhead 7 = .ok (.ifCond .eq 11, 3) := by decide +kernel
theorem dX10_mendAhead_10 : decode cX10_mendAhead 10 = .ok (.iload_n 2, 1) := by decide +kernel
theorem dX10_mendAhead_11 : decode cX10_mendAhead 11 = .ok (.iconst 2, 1) := by decide +kernel
theorem dX10_mendAhead_12 : decode cX10_mendAhead 12 = .ok (.invokestatic 72, 3) := by decide +kernel
theorem dX10_mendAhead_15 : decode cX10_mendAhead 15 = .ok (.ifCond .ne 10, 3) := by decide +kernel
theorem dX10_mendAhead_18 : decode cX10_mendAhead 18 = .ok (.aload_n 0, 1) := by decide +kernel
theorem dX10_mendAhead_19 : decode cX10_mendAhead 19 = .ok (.ldc 76, 2) := by decide +kernel
theorem dX10_mendAhead_21 : decode cX10_mendAhead 21 = .ok (.invokevirtual 77, 3) := by decide +kernel
theorem dX10_mendAhead_24 : decode cX10_mendAhead 24 = .ok (.ireturn, 1) := by decide +kernel
theorem dX10_mendAhead_25 : decode cX10_mendAhead 25 = .ok (.aload_n 0, 1) := by decide +kernel
theorem dX10_mendAhead_26 : decode cX10_mendAhead 26 = .ok (.getfield 12, 3) := by decide +kernel
theorem dX10_mendAhead_29 : decode cX10_mendAhead 29 = .ok (.getfield 81, 3) := by decide +kernel
theorem dX10_mendAhead_32 : decode cX10_mendAhead 32 = .ok (.invokevirtual 138, 3) := by decide +kernel
theorem dX10_mendAhead_35 : decode cX10_mendAhead 35 = .ok (.bipush 31, 2) := by decide +kernel
theorem dX10_mendAhead_37 : decode cX10_mendAhead 37 = .ok (.if_icmp .ne 10, 3) := by decide +kernel
theorem dX10_mendAhead_40 : decode cX10_mendAhead 40 = .ok (.aload_n 0, 1) := by decide +kernel
theorem dX10_mendAhead_41 : decode cX10_mendAhead 41 = .ok (.ldc 192, 2) := by decide +kernel
theorem dX10_mendAhead_43 : decode cX10_mendAhead 43 = .ok (.invokevirtual 77, 3) := by decide +kernel
theorem dX10_mendAhead_46 : decode cX10_mendAhead 46 = .ok (.ireturn, 1) := by decide +kernel
theorem dX10_mendAhead_47 : decode cX10_mendAhead 47 = .ok (.aload_n 0, 1) := by decide +kernel
theorem dX10_mendAhead_48 : decode cX10_mendAhead 48 = .ok (.getfield 22, 3) := by decide +kernel
theorem dX10_mendAhead_51 : decode cX10_mendAhead 51 = .ok (.aload_n 0, 1) := by decide +kernel
theorem dX10_mendAhead_52 : decode cX10_mendAhead 52 = .ok (.getfield 12, 3) := by decide +kernel
theorem dX10_mendAhead_55 : decode cX10_mendAhead 55 = .ok (.getfield 81, 3) := by decide +kernel
theorem dX10_mendAhead_58 : decode cX10_mendAhead 58 = .ok (.invokevirtual 253, 3) := by decide +kernel
theorem dX10_mendAhead_61 : decode cX10_mendAhead 61 = .ok (.aload_n 0, 1) := by decide +kernel
theorem dX10_mendAhead_62 : decode cX10_mendAhead 62 = .ok (.getfield 22, 3) := by decide +kernel
theorem dX10_mendAhead_65 : decode cX10_mendAhead 65 = .ok (.iload_n 1, 1) := by decide +kernel
theorem dX10_mendAhead_66 : decode cX10_mendAhead 66 = .ok (.invokevirtual 241, 3) := by decide +kernel
theorem dX10_mendAhead_69 : decode cX10_mendAhead 69 = .ok (.aload_n 0, 1) := by decide +kernel
theorem dX10_mendAhead_70 : decode cX10_mendAhead 70 = .ok (.getfield 26, 3) := by decide +kernel
theorem dX10_mendAhead_73 : decode cX10_mendAhead 73 = .ok (.aload_n 0, 1) := by decide +kernel
theorem dX10_mendAhead_74 : decode cX10_mendAhead 74 = .ok (.getfield 12, 3) := by decide +kernel
theorem dX10_mendAhead_77 : decode cX10_mendAhead 77 = .ok (.getfield 81, 3) := by decide +kernel
theorem dX10_mendAhead_80 : decode cX10_mendAhead 80 = .ok (.invokevirtual 253, 3) := by decide +kernel
theorem dX10_mendAhead_83 : decode cX10_mendAhead 83 = .ok (.aload_n 0, 1) := by decide +kernel
theorem dX10_mendAhead_84 : decode cX10_mendAhead 84 = .ok (.getfield 26, 3) := by decide +kernel
theorem dX10_mendAhead_87 : decode cX10_mendAhead 87 = .ok (.invokevirtual 259, 3) := by decide +kernel
theorem dX10_mendAhead_90 : decode cX10_mendAhead 90 = .ok (.aload_n 0, 1) := by decide +kernel
theorem dX10_mendAhead_91 : decode cX10_mendAhead 91 = .ok (.getfield 26, 3) := by decide +kernel
theorem dX10_mendAhead_94 : decode cX10_mendAhead 94 = .ok (.iload_n 1, 1) := by decide +kernel
theorem dX10_mendAhead_95 : decode cX10_mendAhead 95 = .ok (.invokevirtual 241, 3) := by decide +kernel
theorem dX10_mendAhead_98 : decode cX10_mendAhead 98 = .ok (.iconst (-1), 1) := by decide +kernel
theorem dX10_mendAhead_99 : decode cX10_mendAhead 99 = .ok (.istore_n 3, 1) := by decide +kernel
theorem dX10_mendAhead_100 : decode cX10_mendAhead 100 = .ok (.bipush 32, 2) := by decide +kernel
theorem dX10_mendAhead_102 : decode cX10_mendAhead 102 = .ok (.istore 4, 2) := by decide +kernel
theorem dX10_mendAhead_104 : decode cX10_mendAhead 104 = .ok (.iconst 0, 1) := by decide +kernel
theorem dX10_mendAhead_105 : decode cX10_mendAhead 105 = .ok (.istore 5, 2) := by decide +kernel
theorem dX10_mendAhead_107 : decode cX10_mendAhead 107 = .ok (.iload 5, 2) := by decide +kernel
theorem dX10_mendAhead_109 : decode cX10_mendAhead 109 = .ok (.bipush 31, 2) := by decide +kernel
theorem dX10_mendAhead_111 : decode cX10_mendAhead 111 = .ok (.if_icmp .ge 70, 3) := by decide +kernel
theorem dX10_mendAhead_114 : decode cX10_mendAhead 114 = .ok (.aload_n 0, 1) := by decide +kernel
theorem dX10_mendAhead_115 : decode cX10_mendAhead 115 = .ok (.getfield 22, 3) := by decide +kernel
theorem dX10_mendAhead_118 : decode cX10_mendAhead 118 = .ok (.getfield 108, 3) := by decide +kernel
theorem dX10_mendAhead_121 : decode cX10_mendAhead 121 = .ok (.iconst 1, 1) := by decide +kernel
theorem dX10_mendAhead_122 : decode cX10_mendAhead 122 = .ok (.iload 5, 2) := by decide +kernel
theorem dX10_mendAhead_124 : decode cX10_mendAhead 124 = .ok (.ishl, 1) := by decide +kernel
theorem dX10_mendAhead_125 : decode cX10_mendAhead 125 = .ok (.iconst (-1), 1) := by decide +kernel
theorem dX10_mendAhead_126 : decode cX10_mendAhead 126 = .ok (.ixor, 1) := by decide +kernel
theorem dX10_mendAhead_127 : decode cX10_mendAhead 127 = .ok (.iand, 1) := by decide +kernel
theorem dX10_mendAhead_128 : decode cX10_mendAhead 128 = .ok (.aload_n 0, 1) := by decide +kernel
theorem dX10_mendAhead_129 : decode cX10_mendAhead 129 = .ok (.getfield 26, 3) := by decide +kernel
theorem dX10_mendAhead_132 : decode cX10_mendAhead 132 = .ok (.getfield 108, 3) := by decide +kernel
theorem dX10_mendAhead_135 : decode cX10_mendAhead 135 = .ok (.iconst 1, 1) := by decide +kernel
theorem dX10_mendAhead_136 : decode cX10_mendAhead 136 = .ok (.iload 5, 2) := by decide +kernel
theorem dX10_mendAhead_138 : decode cX10_mendAhead 138 = .ok (.ishl, 1) := by decide +kernel
theorem dX10_mendAhead_139 : decode cX10_mendAhead 139 = .ok (.iand, 1) := by decide +kernel
theorem dX10_mendAhead_140 : decode cX10_mendAhead 140 = .ok (.ior, 1) := by decide +kernel
theorem dX10_mendAhead_141 : decode cX10_mendAhead 141 = .ok (.invokestatic 117, 3) := by decide +kernel
theorem dX10_mendAhead_144 : decode cX10_mendAhead 144 = .ok (.istore 6, 2) := by decide +kernel
theorem dX10_mendAhead_146 : decode cX10_mendAhead 146 = .ok (.aload_n 0, 1) := by decide +kernel
theorem dX10_mendAhead_147 : decode cX10_mendAhead 147 = .ok (.getfield 12, 3) := by decide +kernel
theorem dX10_mendAhead_150 : decode cX10_mendAhead 150 = .ok (.getfield 81, 3) := by decide +kernel
theorem dX10_mendAhead_153 : decode cX10_mendAhead 153 = .ok (.iload 5, 2) := by decide +kernel
theorem dX10_mendAhead_155 : decode cX10_mendAhead 155 = .ok (.invokevirtual 129, 3) := by decide +kernel
theorem dX10_mendAhead_158 : decode cX10_mendAhead 158 = .ok (.ifCond .ne 17, 3) := by decide +kernel
theorem dX10_mendAhead_161 : decode cX10_mendAhead 161 = .ok (.iload 6, 2) := by decide +kernel
theorem dX10_mendAhead_163 : decode cX10_mendAhead 163 = .ok (.iload 4, 2) := by decide +kernel
theorem dX10_mendAhead_165 : decode cX10_mendAhead 165 = .ok (.if_icmp .ge 10, 3) := by decide +kernel
theorem dX10_mendAhead_168 : decode cX10_mendAhead 168 = .ok (.iload 5, 2) := by decide +kernel
theorem dX10_mendAhead_170 : decode cX10_mendAhead 170 = .ok (.istore_n 3, 1) := by decide +kernel
theorem dX10_mendAhead_171 : decode cX10_mendAhead 171 = .ok (.iload 6, 2) := by decide +kernel
theorem dX10_mendAhead_173 : decode cX10_mendAhead 173 = .ok (.istore 4, 2) := by decide +kernel
theorem dX10_mendAhead_175 : decode cX10_mendAhead 175 = .ok (.iinc 5 1, 3) := by decide +kernel
theorem dX10_mendAhead_178 : decode cX10_mendAhead 178 = .ok (.goto (-71), 3) := by decide +kernel
theorem dX10_mendAhead_181 : decode cX10_mendAhead 181 = .ok (.iload_n 2, 1) := by decide +kernel
theorem dX10_mendAhead_182 : decode cX10_mendAhead 182 = .ok (.ifCond .ne 7, 3) := by decide +kernel
theorem dX10_mendAhead_185 : decode cX10_mendAhead 185 = .ok (.iload_n 3, 1) := by decide +kernel
theorem dX10_mendAhead_186 : decode cX10_mendAhead 186 = .ok (.goto 5, 3) := by decide +kernel
theorem dX10_mendAhead_189 : decode cX10_mendAhead 189 = .ok (.iload 4, 2) := by decide +kernel
theorem dX10_mendAhead_191 : decode cX10_mendAhead 191 = .ok (.ireturn, 1) := by decide +kernel
theorem dX10_hands_0 : decode cX10_hands 0 = .ok (.iload_n 1, 1) := by decide +kernel
theorem dX10_hands_1 : decode cX10_hands 1 = .ok (.iconst 5, 1) := by decide +kernel
theorem dX10_hands_2 : decode cX10_hands 2 = .ok (.invokestatic 72, 3) := by decide +kernel
theorem dX10_hands_5 : decode cX10_hands 5 = .ok (.ifCond .eq 14, 3) := by decide +kernel
theorem dX10_hands_8 : decode cX10_hands 8 = .ok (.iload_n 2, 1) := by decide +kernel
theorem dX10_hands_9 : decode cX10_hands 9 = .ok (.iconst 0, 1) := by decide +kernel
theorem dX10_hands_10 : decode cX10_hands 10 = .ok (.sipush 9999, 3) := by decide +kernel
theorem dX10_hands_13 : decode cX10_hands 13 = .ok (.invokestatic 142, 3) := by decide +kernel
theorem dX10_hands_16 : decode cX10_hands 16 = .ok (.ifCond .ne 10, 3) := by decide +kernel
theorem dX10_hands_19 : decode cX10_hands 19 = .ok (.aload_n 0, 1) := by decide +kernel
theorem dX10_hands_20 : decode cX10_hands 20 = .ok (.ldc 76, 2) := by decide +kernel
theorem dX10_hands_22 : decode cX10_hands 22 = .ok (.invokevirtual 77, 3) := by decide +kernel
theorem dX10_hands_25 : decode cX10_hands 25 = .ok (.ireturn, 1) := by decide +kernel
theorem dX10_hands_26 : decode cX10_hands 26 = .ok (.iconst 0, 1) := by decide +kernel
theorem dX10_hands_27 : decode cX10_hands 27 = .ok (.istore_n 3, 1) := by decide +kernel
theorem dX10_hands_28 : decode cX10_hands 28 = .ok (.iconst 0, 1) := by decide +kernel
theorem dX10_hands_29 : decode cX10_hands 29 = .ok (.istore 4, 2) := by decide +kernel
theorem dX10_hands_31 : decode cX10_hands 31 = .ok (.iload 4, 2) := by decide +kernel
theorem dX10_hands_33 : decode cX10_hands 33 = .ok (.bipush 20, 2) := by decide +kernel
theorem dX10_hands_35 : decode cX10_hands 35 = .ok (.if_icmp .ge 46, 3) := by decide +kernel
theorem dX10_hands_38 : decode cX10_hands 38 = .ok (.aload_n 0, 1) := by decide +kernel
theorem dX10_hands_39 : decode cX10_hands 39 = .ok (.getfield 12, 3) := by decide +kernel
theorem dX10_hands_42 : decode cX10_hands 42 = .ok (.getfield 81, 3) := by decide +kernel
theorem dX10_hands_45 : decode cX10_hands 45 = .ok (.getfield 94, 3) := by decide +kernel
theorem dX10_hands_48 : decode cX10_hands 48 = .ok (.iload 4, 2) := by decide +kernel
theorem dX10_hands_50 : decode cX10_hands 50 = .ok (.iaload, 1) := by decide +kernel
theorem dX10_hands_51 : decode cX10_hands 51 = .ok (.iload_n 1, 1) := by decide +kernel
theorem dX10_hands_52 : decode cX10_hands 52 = .ok (.if_icmp .ne 23, 3) := by decide +kernel
theorem dX10_hands_55 : decode cX10_hands 55 = .ok (.aload_n 0, 1) := by decide +kernel
theorem dX10_hands_56 : decode cX10_hands 56 = .ok (.getfield 12, 3) := by decide +kernel
theorem dX10_hands_59 : decode cX10_hands 59 = .ok (.getfield 81, 3) := by decide +kernel
theorem dX10_hands_62 : decode cX10_hands 62 = .ok (.getfield 97, 3) := by decide +kernel
theorem dX10_hands_65 : decode cX10_hands 65 = .ok (.iload 4, 2) := by decide +kernel
theorem dX10_hands_67 : decode cX10_hands 67 = .ok (.iaload, 1) := by decide +kernel
theorem dX10_hands_68 : decode cX10_hands 68 = .ok (.iload_n 2, 1) := by decide +kernel
theorem dX10_hands_69 : decode cX10_hands 69 = .ok (.if_icmp .lt 6, 3) := by decide +kernel
theorem dX10_hands_72 : decode cX10_hands 72 = .ok (.iinc 3 1, 3) := by decide +kernel
theorem dX10_hands_75 : decode cX10_hands 75 = .ok (.iinc 4 1, 3) := by decide +kernel
theorem dX10_hands_78 : decode cX10_hands 78 = .ok (.goto (-47), 3) := by decide +kernel
theorem dX10_hands_81 : decode cX10_hands 81 = .ok (.iload_n 3, 1) := by decide +kernel
theorem dX10_hands_82 : decode cX10_hands 82 = .ok (.ireturn, 1) := by decide +kernel
theorem dX10_swimsOut_0 : decode cX10_swimsOut 0 = .ok (.iload_n 1, 1) := by decide +kernel
theorem dX10_swimsOut_1 : decode cX10_swimsOut 1 = .ok (.iconst 2, 1) := by decide +kernel
theorem dX10_swimsOut_2 : decode cX10_swimsOut 2 = .ok (.invokestatic 72, 3) := by decide +kernel
theorem dX10_swimsOut_5 : decode cX10_swimsOut 5 = .ok (.ifCond .ne 11, 3) := by decide +kernel
theorem dX10_swimsOut_8 : decode cX10_swimsOut 8 = .ok (.aload_n 0, 1) := by decide +kernel
theorem dX10_swimsOut_9 : decode cX10_swimsOut 9 = .ok (.ldc 76, 2) := by decide +kernel
theorem dX10_swimsOut_11 : decode cX10_swimsOut 11 = .ok (.invokevirtual 77, 3) := by decide +kernel
theorem dX10_swimsOut_14 : decode cX10_swimsOut 14 = .ok (.i2l, 1) := by decide +kernel
theorem dX10_swimsOut_15 : decode cX10_swimsOut 15 = .ok (.lreturn, 1) := by decide +kernel
theorem dX10_swimsOut_16 : decode cX10_swimsOut 16 = .ok (.aload_n 0, 1) := by decide +kernel
theorem dX10_swimsOut_17 : decode cX10_swimsOut 17 = .ok (.getfield 12, 3) := by decide +kernel
theorem dX10_swimsOut_20 : decode cX10_swimsOut 20 = .ok (.getfield 81, 3) := by decide +kernel
theorem dX10_swimsOut_23 : decode cX10_swimsOut 23 = .ok (.invokevirtual 138, 3) := by decide +kernel
theorem dX10_swimsOut_26 : decode cX10_swimsOut 26 = .ok (.istore_n 2, 1) := by decide +kernel
theorem dX10_swimsOut_27 : decode cX10_swimsOut 27 = .ok (.iload_n 2, 1) := by decide +kernel
theorem dX10_swimsOut_28 : decode cX10_swimsOut 28 = .ok (.ifCond .eq 9, 3) := by decide +kernel
theorem dX10_swimsOut_31 : decode cX10_swimsOut 31 = .ok (.iload_n 2, 1) := by decide +kernel
theorem dX10_swimsOut_32 : decode cX10_swimsOut 32 = .ok (.bipush 31, 2) := by decide +kernel
theorem dX10_swimsOut_34 : decode cX10_swimsOut 34 = .ok (.if_icmp .ne 7, 3) := by decide +kernel
theorem dX10_swimsOut_37 : decode cX10_swimsOut 37 = .ok (.iconst 1, 1) := by decide +kernel
theorem dX10_swimsOut_38 : decode cX10_swimsOut 38 = .ok (.goto 4, 3) := by decide +kernel
theorem dX10_swimsOut_41 : decode cX10_swimsOut 41 = .ok (.iconst 0, 1) := by decide +kernel
theorem dX10_swimsOut_42 : decode cX10_swimsOut 42 = .ok (.istore_n 3, 1) := by decide +kernel
theorem dX10_swimsOut_43 : decode cX10_swimsOut 43 = .ok (.iload_n 1, 1) := by decide +kernel
theorem dX10_swimsOut_44 : decode cX10_swimsOut 44 = .ok (.ifCond .ne 18, 3) := by decide +kernel
theorem dX10_swimsOut_47 : decode cX10_swimsOut 47 = .ok (.iload_n 3, 1) := by decide +kernel
theorem dX10_swimsOut_48 : decode cX10_swimsOut 48 = .ok (.ifCond .eq 11, 3) := by decide +kernel
theorem dX10_swimsOut_51 : decode cX10_swimsOut 51 = .ok (.iload_n 2, 1) := by decide +kernel
theorem dX10_swimsOut_52 : decode cX10_swimsOut 52 = .ok (.bipush 31, 2) := by decide +kernel
theorem dX10_swimsOut_54 : decode cX10_swimsOut 54 = .ok (.idiv, 1) := by decide +kernel
theorem dX10_swimsOut_55 : decode cX10_swimsOut 55 = .ok (.i2l, 1) := by decide +kernel
theorem dX10_swimsOut_56 : decode cX10_swimsOut 56 = .ok (.goto 5, 3) := by decide +kernel
theorem dX10_swimsOut_59 : decode cX10_swimsOut 59 = .ok (.iload_n 2, 1) := by decide +kernel
theorem dX10_swimsOut_60 : decode cX10_swimsOut 60 = .ok (.i2l, 1) := by decide +kernel
theorem dX10_swimsOut_61 : decode cX10_swimsOut 61 = .ok (.lreturn, 1) := by decide +kernel
theorem dX10_swimsOut_62 : decode cX10_swimsOut 62 = .ok (.iload_n 3, 1) := by decide +kernel
theorem dX10_swimsOut_63 : decode cX10_swimsOut 63 = .ok (.ifCond .eq 7, 3) := by decide +kernel
theorem dX10_swimsOut_66 : decode cX10_swimsOut 66 = .ok (.lconst 1, 1) := by decide +kernel
theorem dX10_swimsOut_67 : decode cX10_swimsOut 67 = .ok (.goto 6, 3) := by decide +kernel
theorem dX10_swimsOut_70 : decode cX10_swimsOut 70 = .ok (.ldc2_w 262, 3) := by decide +kernel
theorem dX10_swimsOut_73 : decode cX10_swimsOut 73 = .ok (.lreturn, 1) := by decide +kernel
theorem dX10_voice_0 : decode cX10_voice 0 = .ok (.iload_n 1, 1) := by decide +kernel
theorem dX10_voice_1 : decode cX10_voice 1 = .ok (.bipush 20, 2) := by decide +kernel
theorem dX10_voice_3 : decode cX10_voice 3 = .ok (.invokestatic 72, 3) := by decide +kernel
theorem dX10_voice_6 : decode cX10_voice 6 = .ok (.ifCond .eq 11, 3) := by decide +kernel
theorem dX10_voice_9 : decode cX10_voice 9 = .ok (.iload_n 2, 1) := by decide +kernel
theorem dX10_voice_10 : decode cX10_voice 10 = .ok (.iconst 4, 1) := by decide +kernel
theorem dX10_voice_11 : decode cX10_voice 11 = .ok (.invokestatic 72, 3) := by decide +kernel
theorem dX10_voice_14 : decode cX10_voice 14 = .ok (.ifCond .ne 10, 3) := by decide +kernel
theorem dX10_voice_17 : decode cX10_voice 17 = .ok (.aload_n 0, 1) := by decide +kernel
theorem dX10_voice_18 : decode cX10_voice 18 = .ok (.ldc 76, 2) := by decide +kernel
theorem dX10_voice_20 : decode cX10_voice 20 = .ok (.invokevirtual 77, 3) := by decide +kernel
theorem dX10_voice_23 : decode cX10_voice 23 = .ok (.ireturn, 1) := by decide +kernel
theorem dX10_voice_24 : decode cX10_voice 24 = .ok (.aload_n 0, 1) := by decide +kernel
theorem dX10_voice_25 : decode cX10_voice 25 = .ok (.getfield 53, 3) := by decide +kernel
theorem dX10_voice_28 : decode cX10_voice 28 = .ok (.aload_n 0, 1) := by decide +kernel
theorem dX10_voice_29 : decode cX10_voice 29 = .ok (.getfield 12, 3) := by decide +kernel
theorem dX10_voice_32 : decode cX10_voice 32 = .ok (.getfield 81, 3) := by decide +kernel
theorem dX10_voice_35 : decode cX10_voice 35 = .ok (.getfield 84, 3) := by decide +kernel
theorem dX10_voice_38 : decode cX10_voice 38 = .ok (.iload_n 1, 1) := by decide +kernel
theorem dX10_voice_39 : decode cX10_voice 39 = .ok (.iaload, 1) := by decide +kernel
theorem dX10_voice_40 : decode cX10_voice 40 = .ok (.aload_n 0, 1) := by decide +kernel
theorem dX10_voice_41 : decode cX10_voice 41 = .ok (.getfield 12, 3) := by decide +kernel
theorem dX10_voice_44 : decode cX10_voice 44 = .ok (.getfield 81, 3) := by decide +kernel
theorem dX10_voice_47 : decode cX10_voice 47 = .ok (.getfield 87, 3) := by decide +kernel
theorem dX10_voice_50 : decode cX10_voice 50 = .ok (.iload_n 1, 1) := by decide +kernel
theorem dX10_voice_51 : decode cX10_voice 51 = .ok (.iaload, 1) := by decide +kernel
theorem dX10_voice_52 : decode cX10_voice 52 = .ok (.iload_n 1, 1) := by decide +kernel
theorem dX10_voice_53 : decode cX10_voice 53 = .ok (.iload_n 2, 1) := by decide +kernel
theorem dX10_voice_54 : decode cX10_voice 54 = .ok (.iload_n 3, 1) := by decide +kernel
theorem dX10_voice_55 : decode cX10_voice 55 = .ok (.invokevirtual 264, 3) := by decide +kernel
theorem dX10_voice_58 : decode cX10_voice 58 = .ok (.istore 4, 2) := by decide +kernel
theorem dX10_voice_60 : decode cX10_voice 60 = .ok (.aload_n 0, 1) := by decide +kernel
theorem dX10_voice_61 : decode cX10_voice 61 = .ok (.getfield 53, 3) := by decide +kernel
theorem dX10_voice_64 : decode cX10_voice 64 = .ok (.getfield 268, 3) := by decide +kernel
theorem dX10_voice_67 : decode cX10_voice 67 = .ok (.ifCond .eq 13, 3) := by decide +kernel
theorem dX10_voice_70 : decode cX10_voice 70 = .ok (.aload_n 0, 1) := by decide +kernel
theorem dX10_voice_71 : decode cX10_voice 71 = .ok (.ldc_w 272, 3) := by decide +kernel
theorem dX10_voice_74 : decode cX10_voice 74 = .ok (.invokevirtual 77, 3) := by decide +kernel
theorem dX10_voice_77 : decode cX10_voice 77 = .ok (.goto 5, 3) := by decide +kernel
theorem dX10_voice_80 : decode cX10_voice 80 = .ok (.iload 4, 2) := by decide +kernel
theorem dX10_voice_82 : decode cX10_voice 82 = .ok (.ireturn, 1) := by decide +kernel
theorem dX10_body_0 : decode cX10_body 0 = .ok (.iload_n 1, 1) := by decide +kernel
theorem dX10_body_1 : decode cX10_body 1 = .ok (.aload_n 0, 1) := by decide +kernel
theorem dX10_body_2 : decode cX10_body 2 = .ok (.getfield 53, 3) := by decide +kernel
theorem dX10_body_5 : decode cX10_body 5 = .ok (.getfield 273, 3) := by decide +kernel
theorem dX10_body_8 : decode cX10_body 8 = .ok (.invokestatic 72, 3) := by decide +kernel
theorem dX10_body_11 : decode cX10_body 11 = .ok (.ifCond .ne 10, 3) := by decide +kernel
theorem dX10_body_14 : decode cX10_body 14 = .ok (.aload_n 0, 1) := by decide +kernel
theorem dX10_body_15 : decode cX10_body 15 = .ok (.ldc 192, 2) := by decide +kernel
theorem dX10_body_17 : decode cX10_body 17 = .ok (.invokevirtual 77, 3) := by decide +kernel
theorem dX10_body_20 : decode cX10_body 20 = .ok (.ireturn, 1) := by decide +kernel
theorem dX10_body_21 : decode cX10_body 21 = .ok (.aload_n 0, 1) := by decide +kernel
theorem dX10_body_22 : decode cX10_body 22 = .ok (.getfield 53, 3) := by decide +kernel
theorem dX10_body_25 : decode cX10_body 25 = .ok (.getfield 276, 3) := by decide +kernel
theorem dX10_body_28 : decode cX10_body 28 = .ok (.iload_n 1, 1) := by decide +kernel
theorem dX10_body_29 : decode cX10_body 29 = .ok (.iaload, 1) := by decide +kernel
theorem dX10_body_30 : decode cX10_body 30 = .ok (.ireturn, 1) := by decide +kernel
theorem dX10_sheet_0 : decode cX10_sheet 0 = .ok (.iload_n 1, 1) := by decide +kernel
theorem dX10_sheet_1 : decode cX10_sheet 1 = .ok (.iconst 4, 1) := by decide +kernel
theorem dX10_sheet_2 : decode cX10_sheet 2 = .ok (.invokestatic 72, 3) := by decide +kernel
theorem dX10_sheet_5 : decode cX10_sheet 5 = .ok (.ifCond .eq 25, 3) := by decide +kernel
theorem dX10_sheet_8 : decode cX10_sheet 8 = .ok (.iload_n 2, 1) := by decide +kernel
theorem dX10_sheet_9 : decode cX10_sheet 9 = .ok (.ifCond .eq 28, 3) := by decide +kernel
theorem dX10_sheet_12 : decode cX10_sheet 12 = .ok (.iload_n 2, 1) := by decide +kernel
theorem dX10_sheet_13 : decode cX10_sheet 13 = .ok (.bipush 8, 2) := by decide +kernel
theorem dX10_sheet_15 : decode cX10_sheet 15 = .ok (.if_icmp .eq 22, 3) := by decide +kernel
theorem dX10_sheet_18 : decode cX10_sheet 18 = .ok (.iload_n 2, 1) := by decide +kernel
theorem dX10_sheet_19 : decode cX10_sheet 19 = .ok (.bipush 16, 2) := by decide +kernel
theorem dX10_sheet_21 : decode cX10_sheet 21 = .ok (.if_icmp .eq 16, 3) := by decide +kernel
theorem dX10_sheet_24 : decode cX10_sheet 24 = .ok (.iload_n 2, 1) := by decide +kernel
theorem dX10_sheet_25 : decode cX10_sheet 25 = .ok (.bipush 32, 2) := by decide +kernel
theorem dX10_sheet_27 : decode cX10_sheet 27 = .ok (.if_icmp .eq 10, 3) := by decide +kernel
theorem dX10_sheet_30 : decode cX10_sheet 30 = .ok (.aload_n 0, 1) := by decide +kernel
theorem dX10_sheet_31 : decode cX10_sheet 31 = .ok (.ldc 76, 2) := by decide +kernel
theorem dX10_sheet_33 : decode cX10_sheet 33 = .ok (.invokevirtual 77, 3) := by decide +kernel
theorem dX10_sheet_36 : decode cX10_sheet 36 = .ok (.ireturn, 1) := by decide +kernel
theorem dX10_sheet_37 : decode cX10_sheet 37 = .ok (.iload_n 2, 1) := by decide +kernel
theorem dX10_sheet_38 : decode cX10_sheet 38 = .ok (.ifCond .eq 14, 3) := by decide +kernel
theorem dX10_sheet_41 : decode cX10_sheet 41 = .ok (.iload_n 3, 1) := by decide +kernel
theorem dX10_sheet_42 : decode cX10_sheet 42 = .ok (.ifCond .ge 10, 3) := by decide +kernel
theorem dX10_sheet_45 : decode cX10_sheet 45 = .ok (.aload_n 0, 1) := by decide +kernel
theorem dX10_sheet_46 : decode cX10_sheet 46 = .ok (.ldc 133, 2) := by decide +kernel
theorem dX10_sheet_48 : decode cX10_sheet 48 = .ok (.invokevirtual 77, 3) := by decide +kernel
theorem dX10_sheet_51 : decode cX10_sheet 51 = .ok (.ireturn, 1) := by decide +kernel
theorem dX10_sheet_52 : decode cX10_sheet 52 = .ok (.iload_n 2, 1) := by decide +kernel
theorem dX10_sheet_53 : decode cX10_sheet 53 = .ok (.ifCond .eq 16, 3) := by decide +kernel
theorem dX10_sheet_56 : decode cX10_sheet 56 = .ok (.iload_n 3, 1) := by decide +kernel
theorem dX10_sheet_57 : decode cX10_sheet 57 = .ok (.bipush 40, 2) := by decide +kernel
theorem dX10_sheet_59 : decode cX10_sheet 59 = .ok (.if_icmp .le 10, 3) := by decide +kernel
theorem dX10_sheet_62 : decode cX10_sheet 62 = .ok (.aload_n 0, 1) := by decide +kernel
theorem dX10_sheet_63 : decode cX10_sheet 63 = .ok (.ldc 76, 2) := by decide +kernel
theorem dX10_sheet_65 : decode cX10_sheet 65 = .ok (.invokevirtual 77, 3) := by decide +kernel
theorem dX10_sheet_68 : decode cX10_sheet 68 = .ok (.ireturn, 1) := by decide +kernel
theorem dX10_sheet_69 : decode cX10_sheet 69 = .ok (.aload_n 0, 1) := by decide +kernel
theorem dX10_sheet_70 : decode cX10_sheet 70 = .ok (.getfield 59, 3) := by decide +kernel
theorem dX10_sheet_73 : decode cX10_sheet 73 = .ok (.iload_n 1, 1) := by decide +kernel
theorem dX10_sheet_74 : decode cX10_sheet 74 = .ok (.aaload, 1) := by decide +kernel
theorem dX10_sheet_75 : decode cX10_sheet 75 = .ok (.iload_n 2, 1) := by decide +kernel
theorem dX10_sheet_76 : decode cX10_sheet 76 = .ok (.iload_n 2, 1) := by decide +kernel
theorem dX10_sheet_77 : decode cX10_sheet 77 = .ok (.ifCond .ne 7, 3) := by decide +kernel
theorem dX10_sheet_80 : decode cX10_sheet 80 = .ok (.iconst 0, 1) := by decide +kernel
theorem dX10_sheet_81 : decode cX10_sheet 81 = .ok (.goto 4, 3) := by decide +kernel
theorem dX10_sheet_84 : decode cX10_sheet 84 = .ok (.iload_n 3, 1) := by decide +kernel
theorem dX10_sheet_85 : decode cX10_sheet 85 = .ok (.invokevirtual 279, 3) := by decide +kernel
theorem dX10_sheet_88 : decode cX10_sheet 88 = .ok (.iconst 1, 1) := by decide +kernel
theorem dX10_sheet_89 : decode cX10_sheet 89 = .ok (.ireturn, 1) := by decide +kernel
theorem dX10_put_0 : decode cX10_put 0 = .ok (.iload_n 1, 1) := by decide +kernel
theorem dX10_put_1 : decode cX10_put 1 = .ok (.iconst 4, 1) := by decide +kernel
theorem dX10_put_2 : decode cX10_put 2 = .ok (.invokestatic 72, 3) := by decide +kernel
theorem dX10_put_5 : decode cX10_put 5 = .ok (.ifCond .ne 10, 3) := by decide +kernel
theorem dX10_put_8 : decode cX10_put 8 = .ok (.aload_n 0, 1) := by decide +kernel
theorem dX10_put_9 : decode cX10_put 9 = .ok (.ldc 76, 2) := by decide +kernel
theorem dX10_put_11 : decode cX10_put 11 = .ok (.invokevirtual 77, 3) := by decide +kernel
theorem dX10_put_14 : decode cX10_put 14 = .ok (.ireturn, 1) := by decide +kernel
theorem dX10_put_15 : decode cX10_put 15 = .ok (.aload_n 0, 1) := by decide +kernel
theorem dX10_put_16 : decode cX10_put 16 = .ok (.getfield 59, 3) := by decide +kernel
theorem dX10_put_19 : decode cX10_put 19 = .ok (.iload_n 1, 1) := by decide +kernel
theorem dX10_put_20 : decode cX10_put 20 = .ok (.aaload, 1) := by decide +kernel
theorem dX10_put_21 : decode cX10_put 21 = .ok (.astore 4, 2) := by decide +kernel
theorem dX10_put_23 : decode cX10_put 23 = .ok (.aload 4, 2) := by decide +kernel
theorem dX10_put_25 : decode cX10_put 25 = .ok (.invokevirtual 187, 3) := by decide +kernel
theorem dX10_put_28 : decode cX10_put 28 = .ok (.ifCond .eq 10, 3) := by decide +kernel
theorem dX10_put_31 : decode cX10_put 31 = .ok (.aload_n 0, 1) := by decide +kernel
theorem dX10_put_32 : decode cX10_put 32 = .ok (.ldc 192, 2) := by decide +kernel
theorem dX10_put_34 : decode cX10_put 34 = .ok (.invokevirtual 77, 3) := by decide +kernel
theorem dX10_put_37 : decode cX10_put 37 = .ok (.ireturn, 1) := by decide +kernel
theorem dX10_put_38 : decode cX10_put 38 = .ok (.iload_n 2, 1) := by decide +kernel
theorem dX10_put_39 : decode cX10_put 39 = .ok (.aload 4, 2) := by decide +kernel
theorem dX10_put_41 : decode cX10_put 41 = .ok (.getfield 189, 3) := by decide +kernel
theorem dX10_put_44 : decode cX10_put 44 = .ok (.invokestatic 72, 3) := by decide +kernel
theorem dX10_put_47 : decode cX10_put 47 = .ok (.ifCond .ne 10, 3) := by decide +kernel
theorem dX10_put_50 : decode cX10_put 50 = .ok (.aload_n 0, 1) := by decide +kernel
theorem dX10_put_51 : decode cX10_put 51 = .ok (.ldc 76, 2) := by decide +kernel
theorem dX10_put_53 : decode cX10_put 53 = .ok (.invokevirtual 77, 3) := by decide +kernel
theorem dX10_put_56 : decode cX10_put 56 = .ok (.ireturn, 1) := by decide +kernel
theorem dX10_put_57 : decode cX10_put 57 = .ok (.aload 4, 2) := by decide +kernel
theorem dX10_put_59 : decode cX10_put 59 = .ok (.iload_n 2, 1) := by decide +kernel
theorem dX10_put_60 : decode cX10_put 60 = .ok (.iload_n 3, 1) := by decide +kernel
theorem dX10_put_61 : decode cX10_put 61 = .ok (.invokevirtual 282, 3) := by decide +kernel
theorem dX10_put_64 : decode cX10_put 64 = .ok (.iconst 1, 1) := by decide +kernel
theorem dX10_put_65 : decode cX10_put 65 = .ok (.ireturn, 1) := by decide +kernel
theorem dX10_move_0 : decode cX10_move 0 = .ok (.iload_n 1, 1) := by decide +kernel
theorem dX10_move_1 : decode cX10_move 1 = .ok (.iconst 4, 1) := by decide +kernel
theorem dX10_move_2 : decode cX10_move 2 = .ok (.invokestatic 72, 3) := by decide +kernel
theorem dX10_move_5 : decode cX10_move 5 = .ok (.ifCond .eq 11, 3) := by decide +kernel
theorem dX10_move_8 : decode cX10_move 8 = .ok (.iload_n 3, 1) := by decide +kernel
theorem dX10_move_9 : decode cX10_move 9 = .ok (.iconst 4, 1) := by decide +kernel
theorem dX10_move_10 : decode cX10_move 10 = .ok (.invokestatic 72, 3) := by decide +kernel
theorem dX10_move_13 : decode cX10_move 13 = .ok (.ifCond .ne 10, 3) := by decide +kernel
theorem dX10_move_16 : decode cX10_move 16 = .ok (.aload_n 0, 1) := by decide +kernel
theorem dX10_move_17 : decode cX10_move 17 = .ok (.ldc 76, 2) := by decide +kernel
theorem dX10_move_19 : decode cX10_move 19 = .ok (.invokevirtual 77, 3) := by decide +kernel
theorem dX10_move_22 : decode cX10_move 22 = .ok (.ireturn, 1) := by decide +kernel
theorem dX10_move_23 : decode cX10_move 23 = .ok (.aload_n 0, 1) := by decide +kernel
theorem dX10_move_24 : decode cX10_move 24 = .ok (.getfield 59, 3) := by decide +kernel
theorem dX10_move_27 : decode cX10_move 27 = .ok (.iload_n 1, 1) := by decide +kernel
theorem dX10_move_28 : decode cX10_move 28 = .ok (.aaload, 1) := by decide +kernel
theorem dX10_move_29 : decode cX10_move 29 = .ok (.astore 6, 2) := by decide +kernel
theorem dX10_move_31 : decode cX10_move 31 = .ok (.aload_n 0, 1) := by decide +kernel
theorem dX10_move_32 : decode cX10_move 32 = .ok (.getfield 59, 3) := by decide +kernel
theorem dX10_move_35 : decode cX10_move 35 = .ok (.iload_n 3, 1) := by decide +kernel
theorem dX10_move_36 : decode cX10_move 36 = .ok (.aaload, 1) := by decide +kernel
theorem dX10_move_37 : decode cX10_move 37 = .ok (.astore 7, 2) := by decide +kernel
theorem dX10_move_39 : decode cX10_move 39 = .ok (.aload 6, 2) := by decide +kernel
theorem dX10_move_41 : decode cX10_move 41 = .ok (.invokevirtual 187, 3) := by decide +kernel
theorem dX10_move_44 : decode cX10_move 44 = .ok (.ifCond .ne 11, 3) := by decide +kernel
theorem dX10_move_47 : decode cX10_move 47 = .ok (.aload 7, 2) := by decide +kernel
theorem dX10_move_49 : decode cX10_move 49 = .ok (.invokevirtual 187, 3) := by decide +kernel
theorem dX10_move_52 : decode cX10_move 52 = .ok (.ifCond .eq 10, 3) := by decide +kernel
theorem dX10_move_55 : decode cX10_move 55 = .ok (.aload_n 0, 1) := by decide +kernel
theorem dX10_move_56 : decode cX10_move 56 = .ok (.ldc 192, 2) := by decide +kernel
theorem dX10_move_58 : decode cX10_move 58 = .ok (.invokevirtual 77, 3) := by decide +kernel
theorem dX10_move_61 : decode cX10_move 61 = .ok (.ireturn, 1) := by decide +kernel
theorem dX10_move_62 : decode cX10_move 62 = .ok (.aload 6, 2) := by decide +kernel
theorem dX10_move_64 : decode cX10_move 64 = .ok (.getfield 285, 3) := by decide +kernel
theorem dX10_move_67 : decode cX10_move 67 = .ok (.aload 7, 2) := by decide +kernel
theorem dX10_move_69 : decode cX10_move 69 = .ok (.getfield 285, 3) := by decide +kernel
theorem dX10_move_72 : decode cX10_move 72 = .ok (.if_icmp .eq 10, 3) := by decide +kernel
theorem dX10_move_75 : decode cX10_move 75 = .ok (.aload_n 0, 1) := by decide +kernel
theorem dX10_move_76 : decode cX10_move 76 = .ok (.ldc 125, 2) := by decide +kernel
theorem dX10_move_78 : decode cX10_move 78 = .ok (.invokevirtual 77, 3) := by decide +kernel
theorem dX10_move_81 : decode cX10_move 81 = .ok (.ireturn, 1) := by decide +kernel
theorem dX10_move_82 : decode cX10_move 82 = .ok (.aload 6, 2) := by decide +kernel
theorem dX10_move_84 : decode cX10_move 84 = .ok (.iload_n 2, 1) := by decide +kernel
theorem dX10_move_85 : decode cX10_move 85 = .ok (.iload 5, 2) := by decide +kernel
theorem dX10_move_87 : decode cX10_move 87 = .ok (.invokevirtual 288, 3) := by decide +kernel
theorem dX10_move_90 : decode cX10_move 90 = .ok (.ifCond .eq 15, 3) := by decide +kernel
theorem dX10_move_93 : decode cX10_move 93 = .ok (.aload 7, 2) := by decide +kernel
theorem dX10_move_95 : decode cX10_move 95 = .ok (.iload 4, 2) := by decide +kernel
theorem dX10_move_97 : decode cX10_move 97 = .ok (.iload 5, 2) := by decide +kernel
theorem dX10_move_99 : decode cX10_move 99 = .ok (.invokevirtual 288, 3) := by decide +kernel
theorem dX10_move_102 : decode cX10_move 102 = .ok (.ifCond .ne 10, 3) := by decide +kernel
theorem dX10_move_105 : decode cX10_move 105 = .ok (.aload_n 0, 1) := by decide +kernel
theorem dX10_move_106 : decode cX10_move 106 = .ok (.ldc 76, 2) := by decide +kernel
theorem dX10_move_108 : decode cX10_move 108 = .ok (.invokevirtual 77, 3) := by decide +kernel
theorem dX10_move_111 : decode cX10_move 111 = .ok (.ireturn, 1) := by decide +kernel
theorem dX10_move_112 : decode cX10_move 112 = .ok (.aload 6, 2) := by decide +kernel
theorem dX10_move_114 : decode cX10_move 114 = .ok (.getfield 291, 3) := by decide +kernel
theorem dX10_move_117 : decode cX10_move 117 = .ok (.iload_n 2, 1) := by decide +kernel
theorem dX10_move_118 : decode cX10_move 118 = .ok (.aload 7, 2) := by decide +kernel
theorem dX10_move_120 : decode cX10_move 120 = .ok (.getfield 291, 3) := by decide +kernel
theorem dX10_move_123 : decode cX10_move 123 = .ok (.iload 4, 2) := by decide +kernel
theorem dX10_move_125 : decode cX10_move 125 = .ok (.iload 5, 2) := by decide +kernel
theorem dX10_move_127 : decode cX10_move 127 = .ok (.invokestatic 292, 3) := by decide +kernel
theorem dX10_move_130 : decode cX10_move 130 = .ok (.iload 5, 2) := by decide +kernel
theorem dX10_move_132 : decode cX10_move 132 = .ok (.ireturn, 1) := by decide +kernel
theorem dX10_cutAll_0 : decode cX10_cutAll 0 = .ok (.aload_n 0, 1) := by decide +kernel
theorem dX10_cutAll_1 : decode cX10_cutAll 1 = .ok (.iload_n 1, 1) := by decide +kernel
theorem dX10_cutAll_2 : decode cX10_cutAll 2 = .ok (.invokevirtual 298, 3) := by decide +kernel
theorem dX10_cutAll_5 : decode cX10_cutAll 5 = .ok (.istore_n 2, 1) := by decide +kernel
theorem dX10_cutAll_6 : decode cX10_cutAll 6 = .ok (.iload_n 2, 1) := by decide +kernel
theorem dX10_cutAll_7 : decode cX10_cutAll 7 = .ok (.ifCond .eq 9, 3) := by decide +kernel
theorem dX10_cutAll_10 : decode cX10_cutAll 10 = .ok (.aload_n 0, 1) := by decide +kernel
theorem dX10_cutAll_11 : decode cX10_cutAll 11 = .ok (.iload_n 2, 1) := by decide +kernel
theorem dX10_cutAll_12 : decode cX10_cutAll 12 = .ok (.invokevirtual 77, 3) := by decide +kernel
theorem dX10_cutAll_15 : decode cX10_cutAll 15 = .ok (.ireturn, 1) := by decide +kernel
theorem dX10_cutAll_16 : decode cX10_cutAll 16 = .ok (.aload_n 0, 1) := by decide +kernel
theorem dX10_cutAll_17 : decode cX10_cutAll 17 = .ok (.getfield 59, 3) := by decide +kernel
theorem dX10_cutAll_20 : decode cX10_cutAll 20 = .ok (.iload_n 1, 1) := by decide +kernel
theorem dX10_cutAll_21 : decode cX10_cutAll 21 = .ok (.aaload, 1) := by decide +kernel
theorem dX10_cutAll_22 : decode cX10_cutAll 22 = .ok (.astore_n 3, 1) := by decide +kernel
theorem dX10_cutAll_23 : decode cX10_cutAll 23 = .ok (.iconst 0, 1) := by decide +kernel
theorem dX10_cutAll_24 : decode cX10_cutAll 24 = .ok (.istore 4, 2) := by decide +kernel
theorem dX10_cutAll_26 : decode cX10_cutAll 26 = .ok (.iload 4, 2) := by decide +kernel
theorem dX10_cutAll_28 : decode cX10_cutAll 28 = .ok (.aload_n 3, 1) := by decide +kernel
theorem dX10_cutAll_29 : decode cX10_cutAll 29 = .ok (.getfield 189, 3) := by decide +kernel
theorem dX10_cutAll_32 : decode cX10_cutAll 32 = .ok (.if_icmp .ge 58, 3) := by decide +kernel
theorem dX10_cutAll_35 : decode cX10_cutAll 35 = .ok (.aload_n 3, 1) := by decide +kernel
theorem dX10_cutAll_36 : decode cX10_cutAll 36 = .ok (.getfield 291, 3) := by decide +kernel
theorem dX10_cutAll_39 : decode cX10_cutAll 39 = .ok (.iload 4, 2) := by decide +kernel
theorem dX10_cutAll_41 : decode cX10_cutAll 41 = .ok (.iaload, 1) := by decide +kernel
theorem dX10_cutAll_42 : decode cX10_cutAll 42 = .ok (.istore 5, 2) := by decide +kernel
theorem dX10_cutAll_44 : decode cX10_cutAll 44 = .ok (.iload 5, 2) := by decide +kernel
theorem dX10_cutAll_46 : decode cX10_cutAll 46 = .ok (.bipush 31, 2) := by decide +kernel
theorem dX10_cutAll_48 : decode cX10_cutAll 48 = .ok (.invokestatic 72, 3) := by decide +kernel
theorem dX10_cutAll_51 : decode cX10_cutAll 51 = .ok (.ifCond .eq 18, 3) := by decide +kernel
theorem dX10_cutAll_54 : decode cX10_cutAll 54 = .ok (.aload_n 0, 1) := by decide +kernel
theorem dX10_cutAll_55 : decode cX10_cutAll 55 = .ok (.getfield 12, 3) := by decide +kernel
theorem dX10_cutAll_58 : decode cX10_cutAll 58 = .ok (.getfield 81, 3) := by decide +kernel
theorem dX10_cutAll_61 : decode cX10_cutAll 61 = .ok (.iload 5, 2) := by decide +kernel
theorem dX10_cutAll_63 : decode cX10_cutAll 63 = .ok (.invokevirtual 129, 3) := by decide +kernel
theorem dX10_cutAll_66 : decode cX10_cutAll 66 = .ok (.ifCond .eq 6, 3) := by decide +kernel
theorem dX10_cutAll_69 : decode cX10_cutAll 69 = .ok (.iload 4, 2) := by decide +kernel
theorem dX10_cutAll_71 : decode cX10_cutAll 71 = .ok (.ireturn, 1) := by decide +kernel
theorem dX10_cutAll_72 : decode cX10_cutAll 72 = .ok (.aload_n 0, 1) := by decide +kernel
theorem dX10_cutAll_73 : decode cX10_cutAll 73 = .ok (.getfield 12, 3) := by decide +kernel
theorem dX10_cutAll_76 : decode cX10_cutAll 76 = .ok (.getfield 81, 3) := by decide +kernel
theorem dX10_cutAll_79 : decode cX10_cutAll 79 = .ok (.iload 5, 2) := by decide +kernel
theorem dX10_cutAll_81 : decode cX10_cutAll 81 = .ok (.invokevirtual 134, 3) := by decide +kernel
theorem dX10_cutAll_84 : decode cX10_cutAll 84 = .ok (.iinc 4 1, 3) := by decide +kernel
theorem dX10_cutAll_87 : decode cX10_cutAll 87 = .ok (.goto (-61), 3) := by decide +kernel
theorem dX10_cutAll_90 : decode cX10_cutAll 90 = .ok (.aload_n 3, 1) := by decide +kernel
theorem dX10_cutAll_91 : decode cX10_cutAll 91 = .ok (.getfield 189, 3) := by decide +kernel
theorem dX10_cutAll_94 : decode cX10_cutAll 94 = .ok (.ireturn, 1) := by decide +kernel
theorem dX10_judge_0 : decode cX10_judge 0 = .ok (.aload_n 0, 1) := by decide +kernel
theorem dX10_judge_1 : decode cX10_judge 1 = .ok (.iload_n 1, 1) := by decide +kernel
theorem dX10_judge_2 : decode cX10_judge 2 = .ok (.invokevirtual 298, 3) := by decide +kernel
theorem dX10_judge_5 : decode cX10_judge 5 = .ok (.istore_n 2, 1) := by decide +kernel
theorem dX10_judge_6 : decode cX10_judge 6 = .ok (.iload_n 2, 1) := by decide +kernel
theorem dX10_judge_7 : decode cX10_judge 7 = .ok (.ifCond .eq 9, 3) := by decide +kernel
theorem dX10_judge_10 : decode cX10_judge 10 = .ok (.aload_n 0, 1) := by decide +kernel
theorem dX10_judge_11 : decode cX10_judge 11 = .ok (.iload_n 2, 1) := by decide +kernel
theorem dX10_judge_12 : decode cX10_judge 12 = .ok (.invokevirtual 77, 3) := by decide +kernel
theorem dX10_judge_15 : decode cX10_judge 15 = .ok (.ireturn, 1) := by decide +kernel
theorem dX10_judge_16 : decode cX10_judge 16 = .ok (.aload_n 0, 1) := by decide +kernel
theorem dX10_judge_17 : decode cX10_judge 17 = .ok (.getfield 59, 3) := by decide +kernel
theorem dX10_judge_20 : decode cX10_judge 20 = .ok (.iload_n 1, 1) := by decide +kernel
theorem dX10_judge_21 : decode cX10_judge 21 = .ok (.aaload, 1) := by decide +kernel
theorem dX10_judge_22 : decode cX10_judge 22 = .ok (.astore_n 3, 1) := by decide +kernel
theorem dX10_judge_23 : decode cX10_judge 23 = .ok (.iconst 0, 1) := by decide +kernel
theorem dX10_judge_24 : decode cX10_judge 24 = .ok (.istore 4, 2) := by decide +kernel
theorem dX10_judge_26 : decode cX10_judge 26 = .ok (.iload 4, 2) := by decide +kernel
theorem dX10_judge_28 : decode cX10_judge 28 = .ok (.aload_n 3, 1) := by decide +kernel
theorem dX10_judge_29 : decode cX10_judge 29 = .ok (.getfield 189, 3) := by decide +kernel
theorem dX10_judge_32 : decode cX10_judge 32 = .ok (.if_icmp .ge 42, 3) := by decide +kernel
theorem dX10_judge_35 : decode cX10_judge 35 = .ok (.iload 4, 2) := by decide +kernel
theorem dX10_judge_37 : decode cX10_judge 37 = .ok (.bipush 31, 2) := by decide +kernel
theorem dX10_judge_39 : decode cX10_judge 39 = .ok (.if_icmp .ge 26, 3) := by decide +kernel
theorem dX10_judge_42 : decode cX10_judge 42 = .ok (.aload_n 3, 1) := by decide +kernel
theorem dX10_judge_43 : decode cX10_judge 43 = .ok (.getfield 291, 3) := by decide +kernel
theorem dX10_judge_46 : decode cX10_judge 46 = .ok (.iload 4, 2) := by decide +kernel
theorem dX10_judge_48 : decode cX10_judge 48 = .ok (.iaload, 1) := by decide +kernel
theorem dX10_judge_49 : decode cX10_judge 49 = .ok (.aload_n 0, 1) := by decide +kernel
theorem dX10_judge_50 : decode cX10_judge 50 = .ok (.getfield 12, 3) := by decide +kernel
theorem dX10_judge_53 : decode cX10_judge 53 = .ok (.getfield 81, 3) := by decide +kernel
theorem dX10_judge_56 : decode cX10_judge 56 = .ok (.getfield 146, 3) := by decide +kernel
theorem dX10_judge_59 : decode cX10_judge 59 = .ok (.iload 4, 2) := by decide +kernel
theorem dX10_judge_61 : decode cX10_judge 61 = .ok (.iaload, 1) := by decide +kernel
theorem dX10_judge_62 : decode cX10_judge 62 = .ok (.if_icmp .eq 6, 3) := by decide +kernel
theorem dX10_judge_65 : decode cX10_judge 65 = .ok (.iload 4, 2) := by decide +kernel
theorem dX10_judge_67 : decode cX10_judge 67 = .ok (.ireturn, 1) := by decide +kernel
theorem dX10_judge_68 : decode cX10_judge 68 = .ok (.iinc 4 1, 3) := by decide +kernel
theorem dX10_judge_71 : decode cX10_judge 71 = .ok (.goto (-45), 3) := by decide +kernel
theorem dX10_judge_74 : decode cX10_judge 74 = .ok (.aload_n 3, 1) := by decide +kernel
theorem dX10_judge_75 : decode cX10_judge 75 = .ok (.getfield 189, 3) := by decide +kernel
theorem dX10_judge_78 : decode cX10_judge 78 = .ok (.ireturn, 1) := by decide +kernel
theorem dX10_image_0 : decode cX10_image 0 = .ok (.aload_n 0, 1) := by decide +kernel
theorem dX10_image_1 : decode cX10_image 1 = .ok (.getfield 16, 3) := by decide +kernel
theorem dX10_image_4 : decode cX10_image 4 = .ok (.aload_n 0, 1) := by decide +kernel
theorem dX10_image_5 : decode cX10_image 5 = .ok (.getfield 12, 3) := by decide +kernel
theorem dX10_image_8 : decode cX10_image 8 = .ok (.invokevirtual 301, 3) := by decide +kernel
theorem dX10_image_11 : decode cX10_image 11 = .ok (.aload_n 0, 1) := by decide +kernel
theorem dX10_image_12 : decode cX10_image 12 = .ok (.dup, 1) := by decide +kernel
theorem dX10_image_13 : decode cX10_image 13 = .ok (.getfield 67, 3) := by decide +kernel
theorem dX10_image_16 : decode cX10_image 16 = .ok (.iconst 1, 1) := by decide +kernel
theorem dX10_image_17 : decode cX10_image 17 = .ok (.iadd, 1) := by decide +kernel
theorem dX10_image_18 : decode cX10_image 18 = .ok (.putfield 67, 3) := by decide +kernel
theorem dX10_image_21 : decode cX10_image 21 = .ok (.aload_n 0, 1) := by decide +kernel
theorem dX10_image_22 : decode cX10_image 22 = .ok (.getfield 67, 3) := by decide +kernel
theorem dX10_image_25 : decode cX10_image 25 = .ok (.ireturn, 1) := by decide +kernel
theorem dX10_restore_0 : decode cX10_restore 0 = .ok (.aload_n 0, 1) := by decide +kernel
theorem dX10_restore_1 : decode cX10_restore 1 = .ok (.getfield 67, 3) := by decide +kernel
theorem dX10_restore_4 : decode cX10_restore 4 = .ok (.ifCond .ne 10, 3) := by decide +kernel
theorem dX10_restore_7 : decode cX10_restore 7 = .ok (.aload_n 0, 1) := by decide +kernel
theorem dX10_restore_8 : decode cX10_restore 8 = .ok (.ldc 192, 2) := by decide +kernel
theorem dX10_restore_10 : decode cX10_restore 10 = .ok (.invokevirtual 77, 3) := by decide +kernel
theorem dX10_restore_13 : decode cX10_restore 13 = .ok (.ireturn, 1) := by decide +kernel
theorem dX10_restore_14 : decode cX10_restore 14 = .ok (.aload_n 0, 1) := by decide +kernel
theorem dX10_restore_15 : decode cX10_restore 15 = .ok (.getfield 12, 3) := by decide +kernel
theorem dX10_restore_18 : decode cX10_restore 18 = .ok (.aload_n 0, 1) := by decide +kernel
theorem dX10_restore_19 : decode cX10_restore 19 = .ok (.getfield 16, 3) := by decide +kernel
theorem dX10_restore_22 : decode cX10_restore 22 = .ok (.invokevirtual 301, 3) := by decide +kernel
theorem dX10_restore_25 : decode cX10_restore 25 = .ok (.aload_n 0, 1) := by decide +kernel
theorem dX10_restore_26 : decode cX10_restore 26 = .ok (.getfield 12, 3) := by decide +kernel
theorem dX10_restore_29 : decode cX10_restore 29 = .ok (.getfield 81, 3) := by decide +kernel
theorem dX10_restore_32 : decode cX10_restore 32 = .ok (.getfield 304, 3) := by decide +kernel
theorem dX10_restore_35 : decode cX10_restore 35 = .ok (.ireturn, 1) := by decide +kernel
theorem dX10_tell_0 : decode cX10_tell 0 = .ok (.aload_n 0, 1) := by decide +kernel
theorem dX10_tell_1 : decode cX10_tell 1 = .ok (.getfield 12, 3) := by decide +kernel
theorem dX10_tell_4 : decode cX10_tell 4 = .ok (.getfield 307, 3) := by decide +kernel
theorem dX10_tell_7 : decode cX10_tell 7 = .ok (.bipush 24, 2) := by decide +kernel
theorem dX10_tell_9 : decode cX10_tell 9 = .ok (.if_icmp .lt 10, 3) := by decide +kernel
theorem dX10_tell_12 : decode cX10_tell 12 = .ok (.aload_n 0, 1) := by decide +kernel
theorem dX10_tell_13 : decode cX10_tell 13 = .ok (.ldc 158, 2) := by decide +kernel
theorem dX10_tell_15 : decode cX10_tell 15 = .ok (.invokevirtual 77, 3) := by decide +kernel
theorem dX10_tell_18 : decode cX10_tell 18 = .ok (.ireturn, 1) := by decide +kernel
theorem dX10_tell_19 : decode cX10_tell 19 = .ok (.aload_n 0, 1) := by decide +kernel
theorem dX10_tell_20 : decode cX10_tell 20 = .ok (.getfield 12, 3) := by decide +kernel
theorem dX10_tell_23 : decode cX10_tell 23 = .ok (.getfield 310, 3) := by decide +kernel
theorem dX10_tell_26 : decode cX10_tell 26 = .ok (.aload_n 0, 1) := by decide +kernel
theorem dX10_tell_27 : decode cX10_tell 27 = .ok (.getfield 12, 3) := by decide +kernel
theorem dX10_tell_30 : decode cX10_tell 30 = .ok (.getfield 307, 3) := by decide +kernel
theorem dX10_tell_33 : decode cX10_tell 33 = .ok (.iload_n 1, 1) := by decide +kernel
theorem dX10_tell_34 : decode cX10_tell 34 = .ok (.iastore, 1) := by decide +kernel
theorem dX10_tell_35 : decode cX10_tell 35 = .ok (.aload_n 0, 1) := by decide +kernel
theorem dX10_tell_36 : decode cX10_tell 36 = .ok (.getfield 12, 3) := by decide +kernel
theorem dX10_tell_39 : decode cX10_tell 39 = .ok (.dup, 1) := by decide +kernel
theorem dX10_tell_40 : decode cX10_tell 40 = .ok (.getfield 307, 3) := by decide +kernel
theorem dX10_tell_43 : decode cX10_tell 43 = .ok (.iconst 1, 1) := by decide +kernel
theorem dX10_tell_44 : decode cX10_tell 44 = .ok (.iadd, 1) := by decide +kernel
theorem dX10_tell_45 : decode cX10_tell 45 = .ok (.putfield 307, 3) := by decide +kernel
theorem dX10_tell_48 : decode cX10_tell 48 = .ok (.aload_n 0, 1) := by decide +kernel
theorem dX10_tell_49 : decode cX10_tell 49 = .ok (.getfield 12, 3) := by decide +kernel
theorem dX10_tell_52 : decode cX10_tell 52 = .ok (.getfield 307, 3) := by decide +kernel
theorem dX10_tell_55 : decode cX10_tell 55 = .ok (.ireturn, 1) := by decide +kernel
theorem dX10_check_0 : decode cX10_check 0 = .ok (.aload_n 0, 1) := by decide +kernel
theorem dX10_check_1 : decode cX10_check 1 = .ok (.getfield 12, 3) := by decide +kernel
theorem dX10_check_4 : decode cX10_check 4 = .ok (.getfield 307, 3) := by decide +kernel
theorem dX10_check_7 : decode cX10_check 7 = .ok (.istore_n 1, 1) := by decide +kernel
theorem dX10_check_8 : decode cX10_check 8 = .ok (.aload_n 0, 1) := by decide +kernel
theorem dX10_check_9 : decode cX10_check 9 = .ok (.getfield 12, 3) := by decide +kernel
theorem dX10_check_12 : decode cX10_check 12 = .ok (.iconst 0, 1) := by decide +kernel
theorem dX10_check_13 : decode cX10_check 13 = .ok (.putfield 307, 3) := by decide +kernel
theorem dX10_check_16 : decode cX10_check 16 = .ok (.aload_n 0, 1) := by decide +kernel
theorem dX10_check_17 : decode cX10_check 17 = .ok (.getfield 22, 3) := by decide +kernel
theorem dX10_check_20 : decode cX10_check 20 = .ok (.aload_n 0, 1) := by decide +kernel
theorem dX10_check_21 : decode cX10_check 21 = .ok (.getfield 12, 3) := by decide +kernel
theorem dX10_check_24 : decode cX10_check 24 = .ok (.getfield 81, 3) := by decide +kernel
theorem dX10_check_27 : decode cX10_check 27 = .ok (.invokevirtual 253, 3) := by decide +kernel
theorem dX10_check_30 : decode cX10_check 30 = .ok (.iconst 0, 1) := by decide +kernel
theorem dX10_check_31 : decode cX10_check 31 = .ok (.istore_n 2, 1) := by decide +kernel
theorem dX10_check_32 : decode cX10_check 32 = .ok (.iload_n 2, 1) := by decide +kernel
theorem dX10_check_33 : decode cX10_check 33 = .ok (.iload_n 1, 1) := by decide +kernel
theorem dX10_check_34 : decode cX10_check 34 = .ok (.if_icmp .ge 39, 3) := by decide +kernel
theorem dX10_check_37 : decode cX10_check 37 = .ok (.aload_n 0, 1) := by decide +kernel
theorem dX10_check_38 : decode cX10_check 38 = .ok (.getfield 22, 3) := by decide +kernel
theorem dX10_check_41 : decode cX10_check 41 = .ok (.invokevirtual 247, 3) := by decide +kernel
theorem dX10_check_44 : decode cX10_check 44 = .ok (.aload_n 0, 1) := by decide +kernel
theorem dX10_check_45 : decode cX10_check 45 = .ok (.getfield 12, 3) := by decide +kernel
theorem dX10_check_48 : decode cX10_check 48 = .ok (.getfield 310, 3) := by decide +kernel
theorem dX10_check_51 : decode cX10_check 51 = .ok (.iload_n 2, 1) := by decide +kernel
theorem dX10_check_52 : decode cX10_check 52 = .ok (.iaload, 1) := by decide +kernel
theorem dX10_check_53 : decode cX10_check 53 = .ok (.aload_n 0, 1) := by decide +kernel
theorem dX10_check_54 : decode cX10_check 54 = .ok (.getfield 22, 3) := by decide +kernel
theorem dX10_check_57 : decode cX10_check 57 = .ok (.invokevirtual 138, 3) := by decide +kernel
theorem dX10_check_60 : decode cX10_check 60 = .ok (.if_icmp .eq 7, 3) := by decide +kernel
theorem dX10_check_63 : decode cX10_check 63 = .ok (.iconst 1, 1) := by decide +kernel
theorem dX10_check_64 : decode cX10_check 64 = .ok (.iload_n 2, 1) := by decide +kernel
theorem dX10_check_65 : decode cX10_check 65 = .ok (.iadd, 1) := by decide +kernel
theorem dX10_check_66 : decode cX10_check 66 = .ok (.ireturn, 1) := by decide +kernel
theorem dX10_check_67 : decode cX10_check 67 = .ok (.iinc 2 1, 3) := by decide +kernel
theorem dX10_check_70 : decode cX10_check 70 = .ok (.goto (-38), 3) := by decide +kernel
theorem dX10_check_73 : decode cX10_check 73 = .ok (.iconst 0, 1) := by decide +kernel
theorem dX10_check_74 : decode cX10_check 74 = .ok (.ireturn, 1) := by decide +kernel
theorem dX10_count_0 : decode cX10_count 0 = .ok (.iload_n 1, 1) := by decide +kernel
theorem dX10_count_1 : decode cX10_count 1 = .ok (.tableswitch 135 0 8 #[51, 62, 73, 84, 92, 103, 111, 119, 127], 51) := by decide +kernel
theorem dX10_count_52 : decode cX10_count 52 = .ok (.aload_n 0, 1) := by decide +kernel
theorem dX10_count_53 : decode cX10_count 53 = .ok (.getfield 12, 3) := by decide +kernel
theorem dX10_count_56 : decode cX10_count 56 = .ok (.getfield 81, 3) := by decide +kernel
theorem dX10_count_59 : decode cX10_count 59 = .ok (.getfield 304, 3) := by decide +kernel
theorem dX10_count_62 : decode cX10_count 62 = .ok (.ireturn, 1) := by decide +kernel
theorem dX10_count_63 : decode cX10_count 63 = .ok (.aload_n 0, 1) := by decide +kernel
theorem dX10_count_64 : decode cX10_count 64 = .ok (.getfield 12, 3) := by decide +kernel
theorem dX10_count_67 : decode cX10_count 67 = .ok (.getfield 81, 3) := by decide +kernel
theorem dX10_count_70 : decode cX10_count 70 = .ok (.invokevirtual 138, 3) := by decide +kernel
theorem dX10_count_73 : decode cX10_count 73 = .ok (.ireturn, 1) := by decide +kernel
theorem dX10_count_74 : decode cX10_count 74 = .ok (.aload_n 0, 1) := by decide +kernel
theorem dX10_count_75 : decode cX10_count 75 = .ok (.getfield 12, 3) := by decide +kernel
theorem dX10_count_78 : decode cX10_count 78 = .ok (.getfield 81, 3) := by decide +kernel
theorem dX10_count_81 : decode cX10_count 81 = .ok (.invokevirtual 313, 3) := by decide +kernel
theorem dX10_count_84 : decode cX10_count 84 = .ok (.ireturn, 1) := by decide +kernel
theorem dX10_count_85 : decode cX10_count 85 = .ok (.aload_n 0, 1) := by decide +kernel
theorem dX10_count_86 : decode cX10_count 86 = .ok (.getfield 12, 3) := by decide +kernel
theorem dX10_count_89 : decode cX10_count 89 = .ok (.getfield 149, 3) := by decide +kernel
theorem dX10_count_92 : decode cX10_count 92 = .ok (.ireturn, 1) := by decide +kernel
theorem dX10_count_93 : decode cX10_count 93 = .ok (.aload_n 0, 1) := by decide +kernel
theorem dX10_count_94 : decode cX10_count 94 = .ok (.getfield 12, 3) := by decide +kernel
theorem dX10_count_97 : decode cX10_count 97 = .ok (.getfield 81, 3) := by decide +kernel
theorem dX10_count_100 : decode cX10_count 100 = .ok (.invokevirtual 316, 3) := by decide +kernel
theorem dX10_count_103 : decode cX10_count 103 = .ok (.ireturn, 1) := by decide +kernel
theorem dX10_count_104 : decode cX10_count 104 = .ok (.aload_n 0, 1) := by decide +kernel
theorem dX10_count_105 : decode cX10_count 105 = .ok (.getfield 12, 3) := by decide +kernel
theorem dX10_count_108 : decode cX10_count 108 = .ok (.getfield 155, 3) := by decide +kernel
theorem dX10_count_111 : decode cX10_count 111 = .ok (.ireturn, 1) := by decide +kernel
theorem dX10_count_112 : decode cX10_count 112 = .ok (.aload_n 0, 1) := by decide +kernel
theorem dX10_count_113 : decode cX10_count 113 = .ok (.getfield 12, 3) := by decide +kernel
theorem dX10_count_116 : decode cX10_count 116 = .ok (.getfield 307, 3) := by decide +kernel
theorem dX10_count_119 : decode cX10_count 119 = .ok (.ireturn, 1) := by decide +kernel
theorem dX10_count_120 : decode cX10_count 120 = .ok (.aload_n 0, 1) := by decide +kernel
theorem dX10_count_121 : decode cX10_count 121 = .ok (.getfield 53, 3) := by decide +kernel
theorem dX10_count_124 : decode cX10_count 124 = .ok (.getfield 273, 3) := by decide +kernel
theorem dX10_count_127 : decode cX10_count 127 = .ok (.ireturn, 1) := by decide +kernel
theorem dX10_count_128 : decode cX10_count 128 = .ok (.aload_n 0, 1) := by decide +kernel
theorem dX10_count_129 : decode cX10_count 129 = .ok (.getfield 12, 3) := by decide +kernel
theorem dX10_count_132 : decode cX10_count 132 = .ok (.getfield 250, 3) := by decide +kernel
theorem dX10_count_135 : decode cX10_count 135 = .ok (.ireturn, 1) := by decide +kernel
theorem dX10_count_136 : decode cX10_count 136 = .ok (.iload_n 1, 1) := by decide +kernel
theorem dX10_count_137 : decode cX10_count 137 = .ok (.bipush 9, 2) := by decide +kernel
theorem dX10_count_139 : decode cX10_count 139 = .ok (.bipush 11, 2) := by decide +kernel
theorem dX10_count_141 : decode cX10_count 141 = .ok (.invokestatic 142, 3) := by decide +kernel
theorem dX10_count_144 : decode cX10_count 144 = .ok (.ifCond .eq 18, 3) := by decide +kernel
theorem dX10_count_147 : decode cX10_count 147 = .ok (.aload_n 0, 1) := by decide +kernel
theorem dX10_count_148 : decode cX10_count 148 = .ok (.getfield 12, 3) := by decide +kernel
theorem dX10_count_151 : decode cX10_count 151 = .ok (.getfield 152, 3) := by decide +kernel
theorem dX10_count_154 : decode cX10_count 154 = .ok (.iload_n 1, 1) := by decide +kernel
theorem dX10_count_155 : decode cX10_count 155 = .ok (.bipush 9, 2) := by decide +kernel
theorem dX10_count_157 : decode cX10_count 157 = .ok (.isub, 1) := by decide +kernel
theorem dX10_count_158 : decode cX10_count 158 = .ok (.iaload, 1) := by decide +kernel
theorem dX10_count_159 : decode cX10_count 159 = .ok (.goto 9, 3) := by decide +kernel
theorem dX10_count_162 : decode cX10_count 162 = .ok (.aload_n 0, 1) := by decide +kernel
theorem dX10_count_163 : decode cX10_count 163 = .ok (.ldc 76, 2) := by decide +kernel
theorem dX10_count_165 : decode cX10_count 165 = .ok (.invokevirtual 77, 3) := by decide +kernel
theorem dX10_count_168 : decode cX10_count 168 = .ok (.ireturn, 1) := by decide +kernel
theorem dX10_told_0 : decode cX10_told 0 = .ok (.iload_n 1, 1) := by decide +kernel
theorem dX10_told_1 : decode cX10_told 1 = .ok (.iconst 1, 1) := by decide +kernel
theorem dX10_told_2 : decode cX10_told 2 = .ok (.bipush 6, 2) := by decide +kernel
theorem dX10_told_4 : decode cX10_told 4 = .ok (.invokestatic 142, 3) := by decide +kernel
theorem dX10_told_7 : decode cX10_told 7 = .ok (.ifCond .ne 10, 3) := by decide +kernel
theorem dX10_told_10 : decode cX10_told 10 = .ok (.aload_n 0, 1) := by decide +kernel
theorem dX10_told_11 : decode cX10_told 11 = .ok (.ldc 76, 2) := by decide +kernel
theorem dX10_told_13 : decode cX10_told 13 = .ok (.invokevirtual 77, 3) := by decide +kernel
theorem dX10_told_16 : decode cX10_told 16 = .ok (.ireturn, 1) := by decide +kernel
theorem dX10_told_17 : decode cX10_told 17 = .ok (.aload_n 0, 1) := by decide +kernel
theorem dX10_told_18 : decode cX10_told 18 = .ok (.getfield 63, 3) := by decide +kernel
theorem dX10_told_21 : decode cX10_told 21 = .ok (.iload_n 1, 1) := by decide +kernel
theorem dX10_told_22 : decode cX10_told 22 = .ok (.iaload, 1) := by decide +kernel
theorem dX10_told_23 : decode cX10_told 23 = .ok (.ireturn, 1) := by decide +kernel
theorem dX10_isBelow_0 : decode cX10_isBelow 0 = .ok (.iload_n 0, 1) := by decide +kernel
theorem dX10_isBelow_1 : decode cX10_isBelow 1 = .ok (.ifCond .lt 12, 3) := by decide +kernel
theorem dX10_isBelow_4 : decode cX10_isBelow 4 = .ok (.iload_n 0, 1) := by decide +kernel
theorem dX10_isBelow_5 : decode cX10_isBelow 5 = .ok (.iload_n 1, 1) := by decide +kernel
theorem dX10_isBelow_6 : decode cX10_isBelow 6 = .ok (.if_icmp .ge 7, 3) := by decide +kernel
theorem dX10_isBelow_9 : decode cX10_isBelow 9 = .ok (.iconst 1, 1) := by decide +kernel
theorem dX10_isBelow_10 : decode cX10_isBelow 10 = .ok (.goto 4, 3) := by decide +kernel
theorem dX10_isBelow_13 : decode cX10_isBelow 13 = .ok (.iconst 0, 1) := by decide +kernel
theorem dX10_isBelow_14 : decode cX10_isBelow 14 = .ok (.ireturn, 1) := by decide +kernel
theorem dX10_isWithin_0 : decode cX10_isWithin 0 = .ok (.iload_n 0, 1) := by decide +kernel
theorem dX10_isWithin_1 : decode cX10_isWithin 1 = .ok (.iload_n 1, 1) := by decide +kernel
theorem dX10_isWithin_2 : decode cX10_isWithin 2 = .ok (.if_icmp .lt 12, 3) := by decide +kernel
theorem dX10_isWithin_5 : decode cX10_isWithin 5 = .ok (.iload_n 0, 1) := by decide +kernel
theorem dX10_isWithin_6 : decode cX10_isWithin 6 = .ok (.iload_n 2, 1) := by decide +kernel
theorem dX10_isWithin_7 : decode cX10_isWithin 7 = .ok (.if_icmp .gt 7, 3) := by decide +kernel
theorem dX10_isWithin_10 : decode cX10_isWithin 10 = .ok (.iconst 1, 1) := by decide +kernel
theorem dX10_isWithin_11 : decode cX10_isWithin 11 = .ok (.goto 4, 3) := by decide +kernel
theorem dX10_isWithin_14 : decode cX10_isWithin 14 = .ok (.iconst 0, 1) := by decide +kernel
theorem dX10_isWithin_15 : decode cX10_isWithin 15 = .ok (.ireturn, 1) := by decide +kernel
theorem dX10_heldWithin_0 : decode cX10_heldWithin 0 = .ok (.iload_n 1, 1) := by decide +kernel
theorem dX10_heldWithin_1 : decode cX10_heldWithin 1 = .ok (.iload_n 2, 1) := by decide +kernel
theorem dX10_heldWithin_2 : decode cX10_heldWithin 2 = .ok (.iload_n 0, 1) := by decide +kernel
theorem dX10_heldWithin_3 : decode cX10_heldWithin 3 = .ok (.invokestatic 319, 3) := by decide +kernel
theorem dX10_heldWithin_6 : decode cX10_heldWithin 6 = .ok (.invokestatic 324, 3) := by decide +kernel
theorem dX10_heldWithin_9 : decode cX10_heldWithin 9 = .ok (.ireturn, 1) := by decide +kernel
theorem dX10_refuse_0 : decode cX10_refuse 0 = .ok (.ldc_w 327, 3) := by decide +kernel
theorem dX10_refuse_3 : decode cX10_refuse 3 = .ok (.iload_n 1, 1) := by decide +kernel
theorem dX10_refuse_4 : decode cX10_refuse 4 = .ok (.isub, 1) := by decide +kernel
theorem dX10_refuse_5 : decode cX10_refuse 5 = .ok (.istore_n 2, 1) := by decide +kernel
theorem dX10_refuse_6 : decode cX10_refuse 6 = .ok (.iload_n 2, 1) := by decide +kernel
theorem dX10_refuse_7 : decode cX10_refuse 7 = .ok (.iconst 1, 1) := by decide +kernel
theorem dX10_refuse_8 : decode cX10_refuse 8 = .ok (.bipush 6, 2) := by decide +kernel
theorem dX10_refuse_10 : decode cX10_refuse 10 = .ok (.invokestatic 142, 3) := by decide +kernel
theorem dX10_refuse_13 : decode cX10_refuse 13 = .ok (.ifCond .eq 13, 3) := by decide +kernel
theorem dX10_refuse_16 : decode cX10_refuse 16 = .ok (.aload_n 0, 1) := by decide +kernel
theorem dX10_refuse_17 : decode cX10_refuse 17 = .ok (.getfield 63, 3) := by decide +kernel
theorem dX10_refuse_20 : decode cX10_refuse 20 = .ok (.iload_n 2, 1) := by decide +kernel
theorem dX10_refuse_21 : decode cX10_refuse 21 = .ok (.dup2, 1) := by decide +kernel
theorem dX10_refuse_22 : decode cX10_refuse 22 = .ok (.iaload, 1) := by decide +kernel
theorem dX10_refuse_23 : decode cX10_refuse 23 = .ok (.iconst 1, 1) := by decide +kernel
theorem dX10_refuse_24 : decode cX10_refuse 24 = .ok (.iadd, 1) := by decide +kernel
theorem dX10_refuse_25 : decode cX10_refuse 25 = .ok (.iastore, 1) := by decide +kernel
theorem dX10_refuse_26 : decode cX10_refuse 26 = .ok (.iload_n 1, 1) := by decide +kernel
theorem dX10_refuse_27 : decode cX10_refuse 27 = .ok (.ireturn, 1) := by decide +kernel
theorem dX10_daysError_0 : decode cX10_daysError 0 = .ok (.iload_n 1, 1) := by decide +kernel
theorem dX10_daysError_1 : decode cX10_daysError 1 = .ok (.iconst 1, 1) := by decide +kernel
theorem dX10_daysError_2 : decode cX10_daysError 2 = .ok (.bipush 60, 2) := by decide +kernel
theorem dX10_daysError_4 : decode cX10_daysError 4 = .ok (.invokestatic 142, 3) := by decide +kernel
theorem dX10_daysError_7 : decode cX10_daysError 7 = .ok (.ifCond .ne 6, 3) := by decide +kernel
theorem dX10_daysError_10 : decode cX10_daysError 10 = .ok (.ldc 76, 2) := by decide +kernel
theorem dX10_daysError_12 : decode cX10_daysError 12 = .ok (.ireturn, 1) := by decide +kernel
theorem dX10_daysError_13 : decode cX10_daysError 13 = .ok (.aload_n 0, 1) := by decide +kernel
theorem dX10_daysError_14 : decode cX10_daysError 14 = .ok (.getfield 12, 3) := by decide +kernel
theorem dX10_daysError_17 : decode cX10_daysError 17 = .ok (.getfield 81, 3) := by decide +kernel
theorem dX10_daysError_20 : decode cX10_daysError 20 = .ok (.getfield 304, 3) := by decide +kernel
theorem dX10_daysError_23 : decode cX10_daysError 23 = .ok (.iload_n 1, 1) := by decide +kernel
theorem dX10_daysError_24 : decode cX10_daysError 24 = .ok (.iadd, 1) := by decide +kernel
theorem dX10_daysError_25 : decode cX10_daysError 25 = .ok (.sipush 9999, 3) := by decide +kernel
theorem dX10_daysError_28 : decode cX10_daysError 28 = .ok (.if_icmp .le 8, 3) := by decide +kernel
theorem dX10_daysError_31 : decode cX10_daysError 31 = .ok (.ldc 133, 2) := by decide +kernel
theorem dX10_daysError_33 : decode cX10_daysError 33 = .ok (.goto 4, 3) := by decide +kernel
theorem dX10_daysError_36 : decode cX10_daysError 36 = .ok (.iconst 0, 1) := by decide +kernel
theorem dX10_daysError_37 : decode cX10_daysError 37 = .ok (.ireturn, 1) := by decide +kernel
theorem dX10_readingError_0 : decode cX10_readingError 0 = .ok (.iload_n 1, 1) := by decide +kernel
theorem dX10_readingError_1 : decode cX10_readingError 1 = .ok (.iconst 4, 1) := by decide +kernel
theorem dX10_readingError_2 : decode cX10_readingError 2 = .ok (.invokestatic 72, 3) := by decide +kernel
theorem dX10_readingError_5 : decode cX10_readingError 5 = .ok (.ifCond .ne 6, 3) := by decide +kernel
theorem dX10_readingError_8 : decode cX10_readingError 8 = .ok (.ldc 76, 2) := by decide +kernel
theorem dX10_readingError_10 : decode cX10_readingError 10 = .ok (.ireturn, 1) := by decide +kernel
theorem dX10_readingError_11 : decode cX10_readingError 11 = .ok (.aload_n 0, 1) := by decide +kernel
theorem dX10_readingError_12 : decode cX10_readingError 12 = .ok (.getfield 59, 3) := by decide +kernel
theorem dX10_readingError_15 : decode cX10_readingError 15 = .ok (.iload_n 1, 1) := by decide +kernel
theorem dX10_readingError_16 : decode cX10_readingError 16 = .ok (.aaload, 1) := by decide +kernel
theorem dX10_readingError_17 : decode cX10_readingError 17 = .ok (.invokevirtual 187, 3) := by decide +kernel
theorem dX10_readingError_20 : decode cX10_readingError 20 = .ok (.ifCond .eq 8, 3) := by decide +kernel
theorem dX10_readingError_23 : decode cX10_readingError 23 = .ok (.ldc 192, 2) := by decide +kernel
theorem dX10_readingError_25 : decode cX10_readingError 25 = .ok (.goto 4, 3) := by decide +kernel
theorem dX10_readingError_28 : decode cX10_readingError 28 = .ok (.iconst 0, 1) := by decide +kernel
theorem dX10_readingError_29 : decode cX10_readingError 29 = .ok (.ireturn, 1) := by decide +kernel
theorem dX11_init_0 : decode cX11_init 0 = .ok (.aload_n 0, 1) := by decide +kernel
theorem dX11_init_1 : decode cX11_init 1 = .ok (.invokespecial 1, 3) := by decide +kernel
theorem dX11_init_4 : decode cX11_init 4 = .ok (.aload_n 0, 1) := by decide +kernel
theorem dX11_init_5 : decode cX11_init 5 = .ok (.sipush 515, 3) := by decide +kernel
theorem dX11_init_8 : decode cX11_init 8 = .ok (.newarray .int, 2) := by decide +kernel
theorem dX11_init_10 : decode cX11_init 10 = .ok (.putfield 7, 3) := by decide +kernel
theorem dX11_init_13 : decode cX11_init 13 = .ok (.aload_n 0, 1) := by decide +kernel
theorem dX11_init_14 : decode cX11_init 14 = .ok (.sipush 515, 3) := by decide +kernel
theorem dX11_init_17 : decode cX11_init 17 = .ok (.newarray .int, 2) := by decide +kernel
theorem dX11_init_19 : decode cX11_init 19 = .ok (.putfield 13, 3) := by decide +kernel
theorem dX11_init_22 : decode cX11_init 22 = .ok (.aload_n 0, 1) := by decide +kernel
theorem dX11_init_23 : decode cX11_init 23 = .ok (.sipush 181, 3) := by decide +kernel
theorem dX11_init_26 : decode cX11_init 26 = .ok (.newarray .int, 2) := by decide +kernel
theorem dX11_init_28 : decode cX11_init 28 = .ok (.putfield 16, 3) := by decide +kernel
theorem dX11_init_31 : decode cX11_init 31 = .ok (.aload_n 0, 1) := by decide +kernel
theorem dX11_init_32 : decode cX11_init 32 = .ok (.bipush 7, 2) := by decide +kernel
theorem dX11_init_34 : decode cX11_init 34 = .ok (.newarray .int, 2) := by decide +kernel
theorem dX11_init_36 : decode cX11_init 36 = .ok (.putfield 19, 3) := by decide +kernel
theorem dX11_init_39 : decode cX11_init 39 = .ok (.aload_n 0, 1) := by decide +kernel
theorem dX11_init_40 : decode cX11_init 40 = .ok (.bipush 124, 2) := by decide +kernel
theorem dX11_init_42 : decode cX11_init 42 = .ok (.newarray .int, 2) := by decide +kernel
theorem dX11_init_44 : decode cX11_init 44 = .ok (.putfield 22, 3) := by decide +kernel
theorem dX11_init_47 : decode cX11_init 47 = .ok (.aload_n 0, 1) := by decide +kernel
theorem dX11_init_48 : decode cX11_init 48 = .ok (.sipush 128, 3) := by decide +kernel
theorem dX11_init_51 : decode cX11_init 51 = .ok (.newarray .int, 2) := by decide +kernel
theorem dX11_init_53 : decode cX11_init 53 = .ok (.putfield 25, 3) := by decide +kernel
theorem dX11_init_56 : decode cX11_init 56 = .ok (.aload_n 0, 1) := by decide +kernel
theorem dX11_init_57 : decode cX11_init 57 = .ok (.bipush 64, 2) := by decide +kernel
theorem dX11_init_59 : decode cX11_init 59 = .ok (.newarray .int, 2) := by decide +kernel
theorem dX11_init_61 : decode cX11_init 61 = .ok (.putfield 28, 3) := by decide +kernel
theorem dX11_init_64 : decode cX11_init 64 = .ok (.aload_n 0, 1) := by decide +kernel
theorem dX11_init_65 : decode cX11_init 65 = .ok (.iconst 3, 1) := by decide +kernel
theorem dX11_init_66 : decode cX11_init 66 = .ok (.newarray .int, 2) := by decide +kernel
theorem dX11_init_68 : decode cX11_init 68 = .ok (.putfield 31, 3) := by decide +kernel
theorem dX11_init_71 : decode cX11_init 71 = .ok (.aload_n 0, 1) := by decide +kernel
theorem dX11_init_72 : decode cX11_init 72 = .ok (.bipush 31, 2) := by decide +kernel
theorem dX11_init_74 : decode cX11_init 74 = .ok (.newarray .int, 2) := by decide +kernel
theorem dX11_init_76 : decode cX11_init 76 = .ok (.putfield 34, 3) := by decide +kernel
theorem dX11_init_79 : decode cX11_init 79 = .ok (.aload_n 0, 1) := by decide +kernel
theorem dX11_init_80 : decode cX11_init 80 = .ok (.iconst 3, 1) := by decide +kernel
theorem dX11_init_81 : decode cX11_init 81 = .ok (.newarray .int, 2) := by decide +kernel
theorem dX11_init_83 : decode cX11_init 83 = .ok (.putfield 37, 3) := by decide +kernel
theorem dX11_init_86 : decode cX11_init 86 = .ok (.aload_n 0, 1) := by decide +kernel
theorem dX11_init_87 : decode cX11_init 87 = .ok (.bipush 30, 2) := by decide +kernel
theorem dX11_init_89 : decode cX11_init 89 = .ok (.newarray .int, 2) := by decide +kernel
theorem dX11_init_91 : decode cX11_init 91 = .ok (.putfield 40, 3) := by decide +kernel
theorem dX11_init_94 : decode cX11_init 94 = .ok (.aload_n 0, 1) := by decide +kernel
theorem dX11_init_95 : decode cX11_init 95 = .ok (.iconst 4, 1) := by decide +kernel
theorem dX11_init_96 : decode cX11_init 96 = .ok (.newarray .int, 2) := by decide +kernel
theorem dX11_init_98 : decode cX11_init 98 = .ok (.putfield 43, 3) := by decide +kernel
theorem dX11_init_101 : decode cX11_init 101 = .ok (.aload_n 0, 1) := by decide +kernel
theorem dX11_init_102 : decode cX11_init 102 = .ok (.iconst 4, 1) := by decide +kernel
theorem dX11_init_103 : decode cX11_init 103 = .ok (.newarray .int, 2) := by decide +kernel
theorem dX11_init_105 : decode cX11_init 105 = .ok (.putfield 46, 3) := by decide +kernel
theorem dX11_init_108 : decode cX11_init 108 = .ok (.aload_n 0, 1) := by decide +kernel
theorem dX11_init_109 : decode cX11_init 109 = .ok (.sipush 160, 3) := by decide +kernel
theorem dX11_init_112 : decode cX11_init 112 = .ok (.newarray .int, 2) := by decide +kernel
theorem dX11_init_114 : decode cX11_init 114 = .ok (.putfield 49, 3) := by decide +kernel
theorem dX11_init_117 : decode cX11_init 117 = .ok (.aload_n 0, 1) := by decide +kernel
theorem dX11_init_118 : decode cX11_init 118 = .ok (.bipush 40, 2) := by decide +kernel
theorem dX11_init_120 : decode cX11_init 120 = .ok (.newarray .int, 2) := by decide +kernel
theorem dX11_init_122 : decode cX11_init 122 = .ok (.putfield 52, 3) := by decide +kernel
theorem dX11_init_125 : decode cX11_init 125 = .ok (.aload_n 0, 1) := by decide +kernel
theorem dX11_init_126 : decode cX11_init 126 = .ok (.getfield 7, 3) := by decide +kernel
theorem dX11_init_129 : decode cX11_init 129 = .ok (.iconst 4, 1) := by decide +kernel
theorem dX11_init_130 : decode cX11_init 130 = .ok (.iconst 1, 1) := by decide +kernel
theorem dX11_init_131 : decode cX11_init 131 = .ok (.iastore, 1) := by decide +kernel
theorem dX11_init_132 : decode cX11_init 132 = .ok (.aload_n 0, 1) := by decide +kernel
theorem dX11_init_133 : decode cX11_init 133 = .ok (.getfield 7, 3) := by decide +kernel
theorem dX11_init_136 : decode cX11_init 136 = .ok (.iconst 1, 1) := by decide +kernel
theorem dX11_init_137 : decode cX11_init 137 = .ok (.bipush 100, 2) := by decide +kernel
theorem dX11_init_139 : decode cX11_init 139 = .ok (.iastore, 1) := by decide +kernel
theorem dX11_init_140 : decode cX11_init 140 = .ok (.iconst 0, 1) := by decide +kernel
theorem dX11_init_141 : decode cX11_init 141 = .ok (.istore_n 1, 1) := by decide +kernel
theorem dX11_init_142 : decode cX11_init 142 = .ok (.iload_n 1, 1) := by decide +kernel
theorem dX11_init_143 : decode cX11_init 143 = .ok (.iconst 3, 1) := by decide +kernel
theorem dX11_init_144 : decode cX11_init 144 = .ok (.if_icmp .ge 18, 3) := by decide +kernel
theorem dX11_init_147 : decode cX11_init 147 = .ok (.aload_n 0, 1) := by decide +kernel
theorem dX11_init_148 : decode cX11_init 148 = .ok (.getfield 7, 3) := by decide +kernel
theorem dX11_init_151 : decode cX11_init 151 = .ok (.iconst 5, 1) := by decide +kernel
theorem dX11_init_152 : decode cX11_init 152 = .ok (.iload_n 1, 1) := by decide +kernel
theorem dX11_init_153 : decode cX11_init 153 = .ok (.iadd, 1) := by decide +kernel
theorem dX11_init_154 : decode cX11_init 154 = .ok (.iconst 5, 1) := by decide +kernel
theorem dX11_init_155 : decode cX11_init 155 = .ok (.iastore, 1) := by decide +kernel
theorem dX11_init_156 : decode cX11_init 156 = .ok (.iinc 1 1, 3) := by decide +kernel
theorem dX11_init_159 : decode cX11_init 159 = .ok (.goto (-17), 3) := by decide +kernel
theorem dX11_init_162 : decode cX11_init 162 = .ok (.iconst 0, 1) := by decide +kernel
theorem dX11_init_163 : decode cX11_init 163 = .ok (.istore_n 1, 1) := by decide +kernel
theorem dX11_init_164 : decode cX11_init 164 = .ok (.iload_n 1, 1) := by decide +kernel
theorem dX11_init_165 : decode cX11_init 165 = .ok (.bipush 20, 2) := by decide +kernel
theorem dX11_init_167 : decode cX11_init 167 = .ok (.if_icmp .ge 23, 3) := by decide +kernel
theorem dX11_init_170 : decode cX11_init 170 = .ok (.aload_n 0, 1) := by decide +kernel
theorem dX11_init_171 : decode cX11_init 171 = .ok (.getfield 7, 3) := by decide +kernel
theorem dX11_init_174 : decode cX11_init 174 = .ok (.bipush 8, 2) := by decide +kernel
theorem dX11_init_176 : decode cX11_init 176 = .ok (.iconst 4, 1) := by decide +kernel
theorem dX11_init_177 : decode cX11_init 177 = .ok (.iload_n 1, 1) := by decide +kernel
theorem dX11_init_178 : decode cX11_init 178 = .ok (.imul, 1) := by decide +kernel
theorem dX11_init_179 : decode cX11_init 179 = .ok (.iadd, 1) := by decide +kernel
theorem dX11_init_180 : decode cX11_init 180 = .ok (.iconst 1, 1) := by decide +kernel
theorem dX11_init_181 : decode cX11_init 181 = .ok (.iadd, 1) := by decide +kernel
theorem dX11_init_182 : decode cX11_init 182 = .ok (.iconst 5, 1) := by decide +kernel
theorem dX11_init_183 : decode cX11_init 183 = .ok (.iastore, 1) := by decide +kernel
theorem dX11_init_184 : decode cX11_init 184 = .ok (.iinc 1 1, 3) := by decide +kernel
theorem dX11_init_187 : decode cX11_init 187 = .ok (.goto (-23), 3) := by decide +kernel
theorem dX11_init_190 : decode cX11_init 190 = .ok (.iconst 0, 1) := by decide +kernel
theorem dX11_init_191 : decode cX11_init 191 = .ok (.istore_n 1, 1) := by decide +kernel
theorem dX11_init_192 : decode cX11_init 192 = .ok (.iload_n 1, 1) := by decide +kernel
theorem dX11_init_193 : decode cX11_init 193 = .ok (.bipush 31, 2) := by decide +kernel
theorem dX11_init_195 : decode cX11_init 195 = .ok (.if_icmp .ge 23, 3) := by decide +kernel
theorem dX11_init_198 : decode cX11_init 198 = .ok (.aload_n 0, 1) := by decide +kernel
theorem dX11_init_199 : decode cX11_init 199 = .ok (.getfield 7, 3) := by decide +kernel
theorem dX11_init_202 : decode cX11_init 202 = .ok (.bipush 88, 2) := by decide +kernel
theorem dX11_init_204 : decode cX11_init 204 = .ok (.iconst 3, 1) := by decide +kernel
theorem dX11_init_205 : decode cX11_init 205 = .ok (.iload_n 1, 1) := by decide +kernel
theorem dX11_init_206 : decode cX11_init 206 = .ok (.imul, 1) := by decide +kernel
theorem dX11_init_207 : decode cX11_init 207 = .ok (.iadd, 1) := by decide +kernel
theorem dX11_init_208 : decode cX11_init 208 = .ok (.iconst 0, 1) := by decide +kernel
theorem dX11_init_209 : decode cX11_init 209 = .ok (.iadd, 1) := by decide +kernel
theorem dX11_init_210 : decode cX11_init 210 = .ok (.iconst 1, 1) := by decide +kernel
theorem dX11_init_211 : decode cX11_init 211 = .ok (.iastore, 1) := by decide +kernel
theorem dX11_init_212 : decode cX11_init 212 = .ok (.iinc 1 1, 3) := by decide +kernel
theorem dX11_init_215 : decode cX11_init 215 = .ok (.goto (-23), 3) := by decide +kernel
theorem dX11_init_218 : decode cX11_init 218 = .ok (.return_, 1) := by decide +kernel
theorem dX11_error_0 : decode cX11_error 0 = .ok (.aload_n 0, 1) := by decide +kernel
theorem dX11_error_1 : decode cX11_error 1 = .ok (.getfield 19, 3) := by decide +kernel
theorem dX11_error_4 : decode cX11_error 4 = .ok (.iload_n 1, 1) := by decide +kernel
theorem dX11_error_5 : decode cX11_error 5 = .ok (.dup2, 1) := by decide +kernel
theorem dX11_error_6 : decode cX11_error 6 = .ok (.iaload, 1) := by decide +kernel
theorem dX11_error_7 : decode cX11_error 7 = .ok (.iconst 1, 1) := by decide +kernel
theorem dX11_error_8 : decode cX11_error 8 = .ok (.iadd, 1) := by decide +kernel
theorem dX11_error_9 : decode cX11_error 9 = .ok (.iastore, 1) := by decide +kernel
theorem dX11_error_10 : decode cX11_error 10 = .ok (.ldc 55, 2) := by decide +kernel
theorem dX11_error_12 : decode cX11_error 12 = .ok (.iload_n 1, 1) := by decide +kernel
theorem dX11_error_13 : decode cX11_error 13 = .ok (.isub, 1) := by decide +kernel
theorem dX11_error_14 : decode cX11_error 14 = .ok (.ireturn, 1) := by decide +kernel
theorem dX11_in_0 : decode cX11_in 0 = .ok (.iload_n 0, 1) := by decide +kernel
theorem dX11_in_1 : decode cX11_in 1 = .ok (.iload_n 1, 1) := by decide +kernel
theorem dX11_in_2 : decode cX11_in 2 = .ok (.if_icmp .lt 12, 3) := by decide +kernel
theorem dX11_in_5 : decode cX11_in 5 = .ok (.iload_n 0, 1) := by decide +kernel
theorem dX11_in_6 : decode cX11_in 6 = .ok (.iload_n 2, 1) := by decide +kernel
theorem dX11_in_7 : decode cX11_in 7 = .ok (.if_icmp .gt 7, 3) := by decide +kernel
theorem dX11_in_10 : decode cX11_in 10 = .ok (.iconst 1, 1) := by decide +kernel
theorem dX11_in_11 : decode cX11_in 11 = .ok (.goto 4, 3) := by decide +kernel
theorem dX11_in_14 : decode cX11_in 14 = .ok (.iconst 0, 1) := by decide +kernel
theorem dX11_in_15 : decode cX11_in 15 = .ok (.ireturn, 1) := by decide +kernel
theorem dX11_held_0 : decode cX11_held 0 = .ok (.iload_n 0, 1) := by decide +kernel
theorem dX11_held_1 : decode cX11_held 1 = .ok (.iload_n 1, 1) := by decide +kernel
theorem dX11_held_2 : decode cX11_held 2 = .ok (.if_icmp .ge 7, 3) := by decide +kernel
theorem dX11_held_5 : decode cX11_held 5 = .ok (.iload_n 1, 1) := by decide +kernel
theorem dX11_held_6 : decode cX11_held 6 = .ok (.goto 13, 3) := by decide +kernel
theorem dX11_held_9 : decode cX11_held 9 = .ok (.iload_n 0, 1) := by decide +kernel
theorem dX11_held_10 : decode cX11_held 10 = .ok (.iload_n 2, 1) := by decide +kernel
theorem dX11_held_11 : decode cX11_held 11 = .ok (.if_icmp .le 7, 3) := by decide +kernel
theorem dX11_held_14 : decode cX11_held 14 = .ok (.iload_n 2, 1) := by decide +kernel
theorem dX11_held_15 : decode cX11_held 15 = .ok (.goto 4, 3) := by decide +kernel
theorem dX11_held_18 : decode cX11_held 18 = .ok (.iload_n 0, 1) := by decide +kernel
theorem dX11_held_19 : decode cX11_held 19 = .ok (.ireturn, 1) := by decide +kernel
theorem dX11_carry_0 : decode cX11_carry 0 = .ok (.iconst 0, 1) := by decide +kernel
theorem dX11_carry_1 : decode cX11_carry 1 = .ok (.istore_n 3, 1) := by decide +kernel
theorem dX11_carry_2 : decode cX11_carry 2 = .ok (.iload_n 3, 1) := by decide +kernel
theorem dX11_carry_3 : decode cX11_carry 3 = .ok (.iload_n 2, 1) := by decide +kernel
theorem dX11_carry_4 : decode cX11_carry 4 = .ok (.if_icmp .ge 15, 3) := by decide +kernel
theorem dX11_carry_7 : decode cX11_carry 7 = .ok (.aload_n 1, 1) := by decide +kernel
theorem dX11_carry_8 : decode cX11_carry 8 = .ok (.iload_n 3, 1) := by decide +kernel
theorem dX11_carry_9 : decode cX11_carry 9 = .ok (.aload_n 0, 1) := by decide +kernel
theorem dX11_carry_10 : decode cX11_carry 10 = .ok (.iload_n 3, 1) := by decide +kernel
theorem dX11_carry_11 : decode cX11_carry 11 = .ok (.iaload, 1) := by decide +kernel
theorem dX11_carry_12 : decode cX11_carry 12 = .ok (.iastore, 1) := by decide +kernel
theorem dX11_carry_13 : decode cX11_carry 13 = .ok (.iinc 3 1, 3) := by decide +kernel
theorem dX11_carry_16 : decode cX11_carry 16 = .ok (.goto (-14), 3) := by decide +kernel
theorem dX11_carry_19 : decode cX11_carry 19 = .ok (.return_, 1) := by decide +kernel
theorem dX11_layDown_0 : decode cX11_layDown 0 = .ok (.aload_n 0, 1) := by decide +kernel
theorem dX11_layDown_1 : decode cX11_layDown 1 = .ok (.getfield 7, 3) := by decide +kernel
theorem dX11_layDown_4 : decode cX11_layDown 4 = .ok (.aload_n 0, 1) := by decide +kernel
theorem dX11_layDown_5 : decode cX11_layDown 5 = .ok (.getfield 16, 3) := by decide +kernel
theorem dX11_layDown_8 : decode cX11_layDown 8 = .ok (.sipush 181, 3) := by decide +kernel
theorem dX11_layDown_11 : decode cX11_layDown 11 = .ok (.invokestatic 56, 3) := by decide +kernel
theorem dX11_layDown_14 : decode cX11_layDown 14 = .ok (.return_, 1) := by decide +kernel
theorem dX11_layBack_0 : decode cX11_layBack 0 = .ok (.aload_n 0, 1) := by decide +kernel
theorem dX11_layBack_1 : decode cX11_layBack 1 = .ok (.getfield 16, 3) := by decide +kernel
theorem dX11_layBack_4 : decode cX11_layBack 4 = .ok (.aload_n 0, 1) := by decide +kernel
theorem dX11_layBack_5 : decode cX11_layBack 5 = .ok (.getfield 7, 3) := by decide +kernel
theorem dX11_layBack_8 : decode cX11_layBack 8 = .ok (.sipush 181, 3) := by decide +kernel
theorem dX11_layBack_11 : decode cX11_layBack 11 = .ok (.invokestatic 56, 3) := by decide +kernel
theorem dX11_layBack_14 : decode cX11_layBack 14 = .ok (.return_, 1) := by decide +kernel
theorem dX11_isKnot_0 : decode cX11_isKnot 0 = .ok (.iload_n 0, 1) := by decide +kernel
theorem dX11_isKnot_1 : decode cX11_isKnot 1 = .ok (.iconst 0, 1) := by decide +kernel
theorem dX11_isKnot_2 : decode cX11_isKnot 2 = .ok (.bipush 19, 2) := by decide +kernel
theorem dX11_isKnot_4 : decode cX11_isKnot 4 = .ok (.invokestatic 60, 3) := by decide +kernel
theorem dX11_isKnot_7 : decode cX11_isKnot 7 = .ok (.ireturn, 1) := by decide +kernel
theorem dX11_isThread_0 : decode cX11_isThread 0 = .ok (.iload_n 0, 1) := by decide +kernel
theorem dX11_isThread_1 : decode cX11_isThread 1 = .ok (.iconst 0, 1) := by decide +kernel
theorem dX11_isThread_2 : decode cX11_isThread 2 = .ok (.bipush 30, 2) := by decide +kernel
theorem dX11_isThread_4 : decode cX11_isThread 4 = .ok (.invokestatic 60, 3) := by decide +kernel
theorem dX11_isThread_7 : decode cX11_isThread 7 = .ok (.ireturn, 1) := by decide +kernel
theorem dX11_isHand_0 : decode cX11_isHand 0 = .ok (.iload_n 0, 1) := by decide +kernel
theorem dX11_isHand_1 : decode cX11_isHand 1 = .ok (.iconst 0, 1) := by decide +kernel
theorem dX11_isHand_2 : decode cX11_isHand 2 = .ok (.iconst 4, 1) := by decide +kernel
theorem dX11_isHand_3 : decode cX11_isHand 3 = .ok (.invokestatic 60, 3) := by decide +kernel
theorem dX11_isHand_6 : decode cX11_isHand 6 = .ok (.ireturn, 1) := by decide +kernel
theorem dX11_its_0 : decode cX11_its 0 = .ok (.aload_n 0, 1) := by decide +kernel
theorem dX11_its_1 : decode cX11_its 1 = .ok (.getfield 7, 3) := by decide +kernel
theorem dX11_its_4 : decode cX11_its 4 = .ok (.bipush 8, 2) := by decide +kernel
theorem dX11_its_6 : decode cX11_its 6 = .ok (.iconst 4, 1) := by decide +kernel
theorem dX11_its_7 : decode cX11_its 7 = .ok (.iload_n 1, 1) := by decide +kernel
theorem dX11_its_8 : decode cX11_its 8 = .ok (.imul, 1) := by decide +kernel
theorem dX11_its_9 : decode cX11_its 9 = .ok (.iadd, 1) := by decide +kernel
theorem dX11_its_10 : decode cX11_its 10 = .ok (.iload_n 2, 1) := by decide +kernel
theorem dX11_its_11 : decode cX11_its 11 = .ok (.iadd, 1) := by decide +kernel
theorem dX11_its_12 : decode cX11_its 12 = .ok (.iaload, 1) := by decide +kernel
theorem dX11_its_13 : decode cX11_its 13 = .ok (.ireturn, 1) := by decide +kernel
theorem dX11_of_0 : decode cX11_of 0 = .ok (.aload_n 0, 1) := by decide +kernel
theorem dX11_of_1 : decode cX11_of 1 = .ok (.getfield 7, 3) := by decide +kernel
theorem dX11_of_4 : decode cX11_of 4 = .ok (.bipush 88, 2) := by decide +kernel
theorem dX11_of_6 : decode cX11_of 6 = .ok (.iconst 3, 1) := by decide +kernel
theorem dX11_of_7 : decode cX11_of 7 = .ok (.iload_n 1, 1) := by decide +kernel
theorem dX11_of_8 : decode cX11_of 8 = .ok (.imul, 1) := by decide +kernel
theorem dX11_of_9 : decode cX11_of 9 = .ok (.iadd, 1) := by decide +kernel
theorem dX11_of_10 : decode cX11_of 10 = .ok (.iload_n 2, 1) := by decide +kernel
theorem dX11_of_11 : decode cX11_of 11 = .ok (.iadd, 1) := by decide +kernel
theorem dX11_of_12 : decode cX11_of 12 = .ok (.iaload, 1) := by decide +kernel
theorem dX11_of_13 : decode cX11_of 13 = .ok (.ireturn, 1) := by decide +kernel
theorem dX11_isMissing_0 : decode cX11_isMissing 0 = .ok (.aload_n 0, 1) := by decide +kernel
theorem dX11_isMissing_1 : decode cX11_isMissing 1 = .ok (.iload_n 1, 1) := by decide +kernel
theorem dX11_isMissing_2 : decode cX11_isMissing 2 = .ok (.iconst 0, 1) := by decide +kernel
theorem dX11_isMissing_3 : decode cX11_isMissing 3 = .ok (.invokevirtual 64, 3) := by decide +kernel
theorem dX11_isMissing_6 : decode cX11_isMissing 6 = .ok (.ifCond .ne 7, 3) := by decide +kernel
theorem dX11_isMissing_9 : decode cX11_isMissing 9 = .ok (.iconst 1, 1) := by decide +kernel
theorem dX11_isMissing_10 : decode cX11_isMissing 10 = .ok (.goto 4, 3) := by decide +kernel
theorem dX11_isMissing_13 : decode cX11_isMissing 13 = .ok (.iconst 0, 1) := by decide +kernel
theorem dX11_isMissing_14 : decode cX11_isMissing 14 = .ok (.ireturn, 1) := by decide +kernel
theorem dX11_lessOf_0 : decode cX11_lessOf 0 = .ok (.iload_n 0, 1) := by decide +kernel
theorem dX11_lessOf_1 : decode cX11_lessOf 1 = .ok (.bipush 16, 2) := by decide +kernel
theorem dX11_lessOf_3 : decode cX11_lessOf 3 = .ok (.if_icmp .ge 15, 3) := by decide +kernel
theorem dX11_lessOf_6 : decode cX11_lessOf 6 = .ok (.iconst 5, 1) := by decide +kernel
theorem dX11_lessOf_7 : decode cX11_lessOf 7 = .ok (.iload_n 0, 1) := by decide +kernel
theorem dX11_lessOf_8 : decode cX11_lessOf 8 = .ok (.iconst 4, 1) := by decide +kernel
theorem dX11_lessOf_9 : decode cX11_lessOf 9 = .ok (.idiv, 1) := by decide +kernel
theorem dX11_lessOf_10 : decode cX11_lessOf 10 = .ok (.imul, 1) := by decide +kernel
theorem dX11_lessOf_11 : decode cX11_lessOf 11 = .ok (.iload_n 0, 1) := by decide +kernel
theorem dX11_lessOf_12 : decode cX11_lessOf 12 = .ok (.iconst 4, 1) := by decide +kernel
theorem dX11_lessOf_13 : decode cX11_lessOf 13 = .ok (.irem, 1) := by decide +kernel
theorem dX11_lessOf_14 : decode cX11_lessOf 14 = .ok (.iadd, 1) := by decide +kernel
theorem dX11_lessOf_15 : decode cX11_lessOf 15 = .ok (.goto 7, 3) := by decide +kernel
theorem dX11_lessOf_18 : decode cX11_lessOf 18 = .ok (.iload_n 0, 1) := by decide +kernel
theorem dX11_lessOf_19 : decode cX11_lessOf 19 = .ok (.bipush 16, 2) := by decide +kernel
theorem dX11_lessOf_21 : decode cX11_lessOf 21 = .ok (.isub, 1) := by decide +kernel
theorem dX11_lessOf_22 : decode cX11_lessOf 22 = .ok (.ireturn, 1) := by decide +kernel
theorem dX11_otherOf_0 : decode cX11_otherOf 0 = .ok (.iload_n 0, 1) := by decide +kernel
theorem dX11_otherOf_1 : decode cX11_otherOf 1 = .ok (.bipush 16, 2) := by decide +kernel
theorem dX11_otherOf_3 : decode cX11_otherOf 3 = .ok (.if_icmp .ge 12, 3) := by decide +kernel
theorem dX11_otherOf_6 : decode cX11_otherOf 6 = .ok (.iload_n 0, 1) := by decide +kernel
theorem dX11_otherOf_7 : decode cX11_otherOf 7 = .ok (.invokestatic 68, 3) := by decide +kernel
theorem dX11_otherOf_10 : decode cX11_otherOf 10 = .ok (.iconst 1, 1) := by decide +kernel
theorem dX11_otherOf_11 : decode cX11_otherOf 11 = .ok (.iadd, 1) := by decide +kernel
theorem dX11_otherOf_12 : decode cX11_otherOf 12 = .ok (.goto 9, 3) := by decide +kernel
theorem dX11_otherOf_15 : decode cX11_otherOf 15 = .ok (.iload_n 0, 1) := by decide +kernel
theorem dX11_otherOf_16 : decode cX11_otherOf 16 = .ok (.invokestatic 68, 3) := by decide +kernel
theorem dX11_otherOf_19 : decode cX11_otherOf 19 = .ok (.iconst 5, 1) := by decide +kernel
theorem dX11_otherOf_20 : decode cX11_otherOf 20 = .ok (.iadd, 1) := by decide +kernel
theorem dX11_otherOf_21 : decode cX11_otherOf 21 = .ok (.ireturn, 1) := by decide +kernel
theorem dX11_ends_0 : decode cX11_ends 0 = .ok (.iload_n 0, 1) := by decide +kernel
theorem dX11_ends_1 : decode cX11_ends 1 = .ok (.invokestatic 68, 3) := by decide +kernel
theorem dX11_ends_4 : decode cX11_ends 4 = .ok (.iload_n 1, 1) := by decide +kernel
theorem dX11_ends_5 : decode cX11_ends 5 = .ok (.if_icmp .eq 11, 3) := by decide +kernel
theorem dX11_ends_8 : decode cX11_ends 8 = .ok (.iload_n 0, 1) := by decide +kernel
theorem dX11_ends_9 : decode cX11_ends 9 = .ok (.invokestatic 72, 3) := by decide +kernel
theorem dX11_ends_12 : decode cX11_ends 12 = .ok (.iload_n 1, 1) := by decide +kernel
theorem dX11_ends_13 : decode cX11_ends 13 = .ok (.if_icmp .ne 7, 3) := by decide +kernel
theorem dX11_ends_16 : decode cX11_ends 16 = .ok (.iconst 1, 1) := by decide +kernel
theorem dX11_ends_17 : decode cX11_ends 17 = .ok (.goto 4, 3) := by decide +kernel
theorem dX11_ends_20 : decode cX11_ends 20 = .ok (.iconst 0, 1) := by decide +kernel
theorem dX11_ends_21 : decode cX11_ends 21 = .ok (.ireturn, 1) := by decide +kernel
theorem dX11_between_0 : decode cX11_between 0 = .ok (.iload_n 0, 1) := by decide +kernel
theorem dX11_between_1 : decode cX11_between 1 = .ok (.iload_n 1, 1) := by decide +kernel
theorem dX11_between_2 : decode cX11_between 2 = .ok (.if_icmp .ge 7, 3) := by decide +kernel
theorem dX11_between_5 : decode cX11_between 5 = .ok (.iload_n 0, 1) := by decide +kernel
theorem dX11_between_6 : decode cX11_between 6 = .ok (.goto 4, 3) := by decide +kernel
theorem dX11_between_9 : decode cX11_between 9 = .ok (.iload_n 1, 1) := by decide +kernel
theorem dX11_between_10 : decode cX11_between 10 = .ok (.istore_n 2, 1) := by decide +kernel
theorem dX11_between_11 : decode cX11_between 11 = .ok (.iload_n 0, 1) := by decide +kernel
theorem dX11_between_12 : decode cX11_between 12 = .ok (.iload_n 1, 1) := by decide +kernel
theorem dX11_between_13 : decode cX11_between 13 = .ok (.if_icmp .ge 7, 3) := by decide +kernel
theorem dX11_between_16 : decode cX11_between 16 = .ok (.iload_n 1, 1) := by decide +kernel
theorem dX11_between_17 : decode cX11_between 17 = .ok (.goto 4, 3) := by decide +kernel
theorem dX11_between_20 : decode cX11_between 20 = .ok (.iload_n 0, 1) := by decide +kernel
theorem dX11_between_21 : decode cX11_between 21 = .ok (.istore_n 3, 1) := by decide +kernel
theorem dX11_between_22 : decode cX11_between 22 = .ok (.iload_n 3, 1) := by decide +kernel
theorem dX11_between_23 : decode cX11_between 23 = .ok (.iload_n 2, 1) := by decide +kernel
theorem dX11_between_24 : decode cX11_between 24 = .ok (.iconst 5, 1) := by decide +kernel
theorem dX11_between_25 : decode cX11_between 25 = .ok (.iadd, 1) := by decide +kernel
theorem dX11_between_26 : decode cX11_between 26 = .ok (.if_icmp .ne 8, 3) := by decide +kernel
theorem dX11_between_29 : decode cX11_between 29 = .ok (.bipush 16, 2) := by decide +kernel
theorem dX11_between_31 : decode cX11_between 31 = .ok (.iload_n 2, 1) := by decide +kernel
theorem dX11_between_32 : decode cX11_between 32 = .ok (.iadd, 1) := by decide +kernel
theorem dX11_between_33 : decode cX11_between 33 = .ok (.ireturn, 1) := by decide +kernel
theorem dX11_between_34 : decode cX11_between 34 = .ok (.iload_n 3, 1) := by decide +kernel
theorem dX11_between_35 : decode cX11_between 35 = .ok (.iload_n 2, 1) := by decide +kernel
theorem dX11_between_36 : decode cX11_between 36 = .ok (.iconst 1, 1) := by decide +kernel
theorem dX11_between_37 : decode cX11_between 37 = .ok (.iadd, 1) := by decide +kernel
theorem dX11_between_38 : decode cX11_between 38 = .ok (.if_icmp .ne 22, 3) := by decide +kernel
theorem dX11_between_41 : decode cX11_between 41 = .ok (.iload_n 2, 1) := by decide +kernel
theorem dX11_between_42 : decode cX11_between 42 = .ok (.iconst 5, 1) := by decide +kernel
theorem dX11_between_43 : decode cX11_between 43 = .ok (.irem, 1) := by decide +kernel
theorem dX11_between_44 : decode cX11_between 44 = .ok (.iconst 4, 1) := by decide +kernel
theorem dX11_between_45 : decode cX11_between 45 = .ok (.if_icmp .ge 15, 3) := by decide +kernel
theorem dX11_between_48 : decode cX11_between 48 = .ok (.iconst 4, 1) := by decide +kernel
theorem dX11_between_49 : decode cX11_between 49 = .ok (.iload_n 2, 1) := by decide +kernel
theorem dX11_between_50 : decode cX11_between 50 = .ok (.iconst 5, 1) := by decide +kernel
theorem dX11_between_51 : decode cX11_between 51 = .ok (.idiv, 1) := by decide +kernel
theorem dX11_between_52 : decode cX11_between 52 = .ok (.imul, 1) := by decide +kernel
theorem dX11_between_53 : decode cX11_between 53 = .ok (.iload_n 2, 1) := by decide +kernel
theorem dX11_between_54 : decode cX11_between 54 = .ok (.iconst 5, 1) := by decide +kernel
theorem dX11_between_55 : decode cX11_between 55 = .ok (.irem, 1) := by decide +kernel
theorem dX11_between_56 : decode cX11_between 56 = .ok (.iadd, 1) := by decide +kernel
theorem dX11_between_57 : decode cX11_between 57 = .ok (.goto 4, 3) := by decide +kernel
theorem dX11_between_60 : decode cX11_between 60 = .ok (.iconst (-1), 1) := by decide +kernel
theorem dX11_between_61 : decode cX11_between 61 = .ok (.ireturn, 1) := by decide +kernel
theorem dX11_change1_0 : decode cX11_change1 0 = .ok (.aload_n 0, 1) := by decide +kernel
theorem dX11_change1_1 : decode cX11_change1 1 = .ok (.getfield 7, 3) := by decide +kernel
theorem dX11_change1_4 : decode cX11_change1 4 = .ok (.iload_n 1, 1) := by decide +kernel
theorem dX11_change1_5 : decode cX11_change1 5 = .ok (.iaload, 1) := by decide +kernel
theorem dX11_change1_6 : decode cX11_change1 6 = .ok (.istore_n 3, 1) := by decide +kernel
theorem dX11_change1_7 : decode cX11_change1 7 = .ok (.aload_n 0, 1) := by decide +kernel
theorem dX11_change1_8 : decode cX11_change1 8 = .ok (.getfield 7, 3) := by decide +kernel
theorem dX11_change1_11 : decode cX11_change1 11 = .ok (.iload_n 1, 1) := by decide +kernel
theorem dX11_change1_12 : decode cX11_change1 12 = .ok (.iload_n 2, 1) := by decide +kernel
theorem dX11_change1_13 : decode cX11_change1 13 = .ok (.iastore, 1) := by decide +kernel
theorem dX11_change1_14 : decode cX11_change1 14 = .ok (.iload_n 3, 1) := by decide +kernel
theorem dX11_change1_15 : decode cX11_change1 15 = .ok (.ireturn, 1) := by decide +kernel
theorem dX11_missing_0 : decode cX11_missing 0 = .ok (.iconst 0, 1) := by decide +kernel
theorem dX11_missing_1 : decode cX11_missing 1 = .ok (.istore_n 1, 1) := by decide +kernel
theorem dX11_missing_2 : decode cX11_missing 2 = .ok (.iconst 0, 1) := by decide +kernel
theorem dX11_missing_3 : decode cX11_missing 3 = .ok (.istore_n 2, 1) := by decide +kernel
theorem dX11_missing_4 : decode cX11_missing 4 = .ok (.iload_n 2, 1) := by decide +kernel
theorem dX11_missing_5 : decode cX11_missing 5 = .ok (.bipush 31, 2) := by decide +kernel
theorem dX11_missing_7 : decode cX11_missing 7 = .ok (.if_icmp .ge 25, 3) := by decide +kernel
theorem dX11_missing_10 : decode cX11_missing 10 = .ok (.iload_n 1, 1) := by decide +kernel
theorem dX11_missing_11 : decode cX11_missing 11 = .ok (.aload_n 0, 1) := by decide +kernel
theorem dX11_missing_12 : decode cX11_missing 12 = .ok (.iload_n 2, 1) := by decide +kernel
theorem dX11_missing_13 : decode cX11_missing 13 = .ok (.invokevirtual 75, 3) := by decide +kernel
theorem dX11_missing_16 : decode cX11_missing 16 = .ok (.ifCond .eq 7, 3) := by decide +kernel
theorem dX11_missing_19 : decode cX11_missing 19 = .ok (.iconst 1, 1) := by decide +kernel
theorem dX11_missing_20 : decode cX11_missing 20 = .ok (.goto 4, 3) := by decide +kernel
theorem dX11_missing_23 : decode cX11_missing 23 = .ok (.iconst 0, 1) := by decide +kernel
theorem dX11_missing_24 : decode cX11_missing 24 = .ok (.iadd, 1) := by decide +kernel
theorem dX11_missing_25 : decode cX11_missing 25 = .ok (.istore_n 1, 1) := by decide +kernel
theorem dX11_missing_26 : decode cX11_missing 26 = .ok (.iinc 2 1, 3) := by decide +kernel
theorem dX11_missing_29 : decode cX11_missing 29 = .ok (.goto (-25), 3) := by decide +kernel
theorem dX11_missing_32 : decode cX11_missing 32 = .ok (.iload_n 1, 1) := by decide +kernel
theorem dX11_missing_33 : decode cX11_missing 33 = .ok (.ireturn, 1) := by decide +kernel
theorem dX11_gone_0 : decode cX11_gone 0 = .ok (.iconst 0, 1) := by decide +kernel
theorem dX11_gone_1 : decode cX11_gone 1 = .ok (.istore_n 1, 1) := by decide +kernel
theorem dX11_gone_2 : decode cX11_gone 2 = .ok (.iconst 0, 1) := by decide +kernel
theorem dX11_gone_3 : decode cX11_gone 3 = .ok (.istore_n 2, 1) := by decide +kernel
theorem dX11_gone_4 : decode cX11_gone 4 = .ok (.iload_n 2, 1) := by decide +kernel
theorem dX11_gone_5 : decode cX11_gone 5 = .ok (.bipush 31, 2) := by decide +kernel
theorem dX11_gone_7 : decode cX11_gone 7 = .ok (.if_icmp .ge 27, 3) := by decide +kernel
theorem dX11_gone_10 : decode cX11_gone 10 = .ok (.iload_n 1, 1) := by decide +kernel
theorem dX11_gone_11 : decode cX11_gone 11 = .ok (.aload_n 0, 1) := by decide +kernel
theorem dX11_gone_12 : decode cX11_gone 12 = .ok (.iload_n 2, 1) := by decide +kernel
theorem dX11_gone_13 : decode cX11_gone 13 = .ok (.invokevirtual 75, 3) := by decide +kernel
theorem dX11_gone_16 : decode cX11_gone 16 = .ok (.ifCond .eq 9, 3) := by decide +kernel
theorem dX11_gone_19 : decode cX11_gone 19 = .ok (.iconst 1, 1) := by decide +kernel
theorem dX11_gone_20 : decode cX11_gone 20 = .ok (.iload_n 2, 1) := by decide +kernel
theorem dX11_gone_21 : decode cX11_gone 21 = .ok (.ishl, 1) := by decide +kernel
theorem dX11_gone_22 : decode cX11_gone 22 = .ok (.goto 4, 3) := by decide +kernel
theorem dX11_gone_25 : decode cX11_gone 25 = .ok (.iconst 0, 1) := by decide +kernel
theorem dX11_gone_26 : decode cX11_gone 26 = .ok (.ior, 1) := by decide +kernel
theorem dX11_gone_27 : decode cX11_gone 27 = .ok (.istore_n 1, 1) := by decide +kernel
theorem dX11_gone_28 : decode cX11_gone 28 = .ok (.iinc 2 1, 3) := by decide +kernel
theorem dX11_gone_31 : decode cX11_gone 31 = .ok (.goto (-27), 3) := by decide +kernel
theorem dX11_gone_34 : decode cX11_gone 34 = .ok (.iload_n 1, 1) := by decide +kernel
theorem dX11_gone_35 : decode cX11_gone 35 = .ok (.ireturn, 1) := by decide +kernel
theorem dX11_isIn_0 : decode cX11_isIn 0 = .ok (.iload_n 0, 1) := by decide +kernel
theorem dX11_isIn_1 : decode cX11_isIn 1 = .ok (.iload_n 1, 1) := by decide +kernel
theorem dX11_isIn_2 : decode cX11_isIn 2 = .ok (.iushr, 1) := by decide +kernel
theorem dX11_isIn_3 : decode cX11_isIn 3 = .ok (.iconst 1, 1) := by decide +kernel
theorem dX11_isIn_4 : decode cX11_isIn 4 = .ok (.iand, 1) := by decide +kernel
theorem dX11_isIn_5 : decode cX11_isIn 5 = .ok (.iconst 1, 1) := by decide +kernel
theorem dX11_isIn_6 : decode cX11_isIn 6 = .ok (.if_icmp .ne 7, 3) := by decide +kernel
theorem dX11_isIn_9 : decode cX11_isIn 9 = .ok (.iconst 1, 1) := by decide +kernel
theorem dX11_isIn_10 : decode cX11_isIn 10 = .ok (.goto 4, 3) := by decide +kernel
theorem dX11_isIn_13 : decode cX11_isIn 13 = .ok (.iconst 0, 1) := by decide +kernel
theorem dX11_isIn_14 : decode cX11_isIn 14 = .ok (.ireturn, 1) := by decide +kernel
theorem dX11_feed_0 : decode cX11_feed 0 = .ok (.iload_n 3, 1) := by decide +kernel
theorem dX11_feed_1 : decode cX11_feed 1 = .ok (.iconst 1, 1) := by decide +kernel
theorem dX11_feed_2 : decode cX11_feed 2 = .ok (.bipush 8, 2) := by decide +kernel
theorem dX11_feed_4 : decode cX11_feed 4 = .ok (.invokestatic 60, 3) := by decide +kernel
theorem dX11_feed_7 : decode cX11_feed 7 = .ok (.ifCond .ne 9, 3) := by decide +kernel
theorem dX11_feed_10 : decode cX11_feed 10 = .ok (.aload_n 0, 1) := by decide +kernel
theorem dX11_feed_11 : decode cX11_feed 11 = .ok (.iconst 1, 1) := by decide +kernel
theorem dX11_feed_12 : decode cX11_feed 12 = .ok (.invokevirtual 79, 3) := by decide +kernel
theorem dX11_feed_15 : decode cX11_feed 15 = .ok (.ireturn, 1) := by decide +kernel
theorem dX11_feed_16 : decode cX11_feed 16 = .ok (.aload_n 0, 1) := by decide +kernel
theorem dX11_feed_17 : decode cX11_feed 17 = .ok (.getfield 7, 3) := by decide +kernel
theorem dX11_feed_20 : decode cX11_feed 20 = .ok (.iconst 2, 1) := by decide +kernel
theorem dX11_feed_21 : decode cX11_feed 21 = .ok (.iaload, 1) := by decide +kernel
theorem dX11_feed_22 : decode cX11_feed 22 = .ok (.iload_n 3, 1) := by decide +kernel
theorem dX11_feed_23 : decode cX11_feed 23 = .ok (.iadd, 1) := by decide +kernel
theorem dX11_feed_24 : decode cX11_feed 24 = .ok (.bipush 60, 2) := by decide +kernel
theorem dX11_feed_26 : decode cX11_feed 26 = .ok (.if_icmp .le 9, 3) := by decide +kernel
theorem dX11_feed_29 : decode cX11_feed 29 = .ok (.aload_n 0, 1) := by decide +kernel
theorem dX11_feed_30 : decode cX11_feed 30 = .ok (.iconst 4, 1) := by decide +kernel
theorem dX11_feed_31 : decode cX11_feed 31 = .ok (.invokevirtual 79, 3) := by decide +kernel
theorem dX11_feed_34 : decode cX11_feed 34 = .ok (.ireturn, 1) := by decide +kernel
theorem dX11_feed_35 : decode cX11_feed 35 = .ok (.iconst 0, 1) := by decide +kernel
theorem dX11_feed_36 : decode cX11_feed 36 = .ok (.istore 4, 2) := by decide +kernel
theorem dX11_feed_38 : decode cX11_feed 38 = .ok (.iload 4, 2) := by decide +kernel
theorem dX11_feed_40 : decode cX11_feed 40 = .ok (.iload_n 3, 1) := by decide +kernel
theorem dX11_feed_41 : decode cX11_feed 41 = .ok (.if_icmp .ge 46, 3) := by decide +kernel
theorem dX11_feed_44 : decode cX11_feed 44 = .ok (.aload_n 0, 1) := by decide +kernel
theorem dX11_feed_45 : decode cX11_feed 45 = .ok (.getfield 7, 3) := by decide +kernel
theorem dX11_feed_48 : decode cX11_feed 48 = .ok (.sipush 431, 3) := by decide +kernel
theorem dX11_feed_51 : decode cX11_feed 51 = .ok (.aload_n 0, 1) := by decide +kernel
