theorem dX11_fault_16 : decode cX11_fault 16 = .ok (.iload_n 1, 1) := by decide +kernel
theorem dX11_fault_17 : decode cX11_fault 17 = .ok (.iconst 1, 1) := by decide +kernel
theorem dX11_fault_18 : decode cX11_fault 18 = .ok (.if_icmp .ne 10, 3) := by decide +kernel
theorem dX11_fault_21 : decode cX11_fault 21 = .ok (.aload_n 0, 1) := by decide +kernel
theorem dX11_fault_22 : decode cX11_fault 22 = .ok (.getfield 82, 3) := by decide +kernel
theorem dX11_fault_25 : decode cX11_fault 25 = .ok (.goto 4, 3) := by decide +kernel
theorem dX11_fault_28 : decode cX11_fault 28 = .ok (.iconst (-1), 1) := by decide +kernel
theorem dX11_fault_29 : decode cX11_fault 29 = .ok (.ireturn, 1) := by decide +kernel
theorem dX11_named_0 : decode cX11_named 0 = .ok (.aload_n 0, 1) := by decide +kernel
theorem dX11_named_1 : decode cX11_named 1 = .ok (.iconst 0, 1) := by decide +kernel
theorem dX11_named_2 : decode cX11_named 2 = .ok (.putfield 163, 3) := by decide +kernel
theorem dX11_named_5 : decode cX11_named 5 = .ok (.iload_n 1, 1) := by decide +kernel
theorem dX11_named_6 : decode cX11_named 6 = .ok (.tableswitch 77 0 2 #[26, 43, 60], 26) := by decide +kernel
theorem dX11_named_32 : decode cX11_named 32 = .ok (.aload_n 0, 1) := by decide +kernel
theorem dX11_named_33 : decode cX11_named 33 = .ok (.getfield 28, 3) := by decide +kernel
theorem dX11_named_36 : decode cX11_named 36 = .ok (.iconst 0, 1) := by decide +kernel
theorem dX11_named_37 : decode cX11_named 37 = .ok (.aload_n 0, 1) := by decide +kernel
theorem dX11_named_38 : decode cX11_named 38 = .ok (.getfield 13, 3) := by decide +kernel
theorem dX11_named_41 : decode cX11_named 41 = .ok (.bipush 6, 2) := by decide +kernel
theorem dX11_named_43 : decode cX11_named 43 = .ok (.iaload, 1) := by decide +kernel
theorem dX11_named_44 : decode cX11_named 44 = .ok (.iload_n 2, 1) := by decide +kernel
theorem dX11_named_45 : decode cX11_named 45 = .ok (.invokestatic 229, 3) := by decide +kernel
theorem dX11_named_48 : decode cX11_named 48 = .ok (.ireturn, 1) := by decide +kernel
theorem dX11_named_49 : decode cX11_named 49 = .ok (.aload_n 0, 1) := by decide +kernel
theorem dX11_named_50 : decode cX11_named 50 = .ok (.getfield 46, 3) := by decide +kernel
theorem dX11_named_53 : decode cX11_named 53 = .ok (.iconst 0, 1) := by decide +kernel
theorem dX11_named_54 : decode cX11_named 54 = .ok (.aload_n 0, 1) := by decide +kernel
theorem dX11_named_55 : decode cX11_named 55 = .ok (.getfield 13, 3) := by decide +kernel
theorem dX11_named_58 : decode cX11_named 58 = .ok (.bipush 8, 2) := by decide +kernel
theorem dX11_named_60 : decode cX11_named 60 = .ok (.iaload, 1) := by decide +kernel
theorem dX11_named_61 : decode cX11_named 61 = .ok (.iload_n 2, 1) := by decide +kernel
theorem dX11_named_62 : decode cX11_named 62 = .ok (.invokestatic 229, 3) := by decide +kernel
theorem dX11_named_65 : decode cX11_named 65 = .ok (.ireturn, 1) := by decide +kernel
theorem dX11_named_66 : decode cX11_named 66 = .ok (.aload_n 0, 1) := by decide +kernel
theorem dX11_named_67 : decode cX11_named 67 = .ok (.getfield 61, 3) := by decide +kernel
theorem dX11_named_70 : decode cX11_named 70 = .ok (.iconst 0, 1) := by decide +kernel
theorem dX11_named_71 : decode cX11_named 71 = .ok (.aload_n 0, 1) := by decide +kernel
theorem dX11_named_72 : decode cX11_named 72 = .ok (.getfield 13, 3) := by decide +kernel
theorem dX11_named_75 : decode cX11_named 75 = .ok (.bipush 9, 2) := by decide +kernel
theorem dX11_named_77 : decode cX11_named 77 = .ok (.iaload, 1) := by decide +kernel
theorem dX11_named_78 : decode cX11_named 78 = .ok (.iload_n 2, 1) := by decide +kernel
theorem dX11_named_79 : decode cX11_named 79 = .ok (.invokestatic 229, 3) := by decide +kernel
theorem dX11_named_82 : decode cX11_named 82 = .ok (.ireturn, 1) := by decide +kernel
theorem dX11_named_83 : decode cX11_named 83 = .ok (.iconst (-1), 1) := by decide +kernel
theorem dX11_named_84 : decode cX11_named 84 = .ok (.ireturn, 1) := by decide +kernel
theorem dX11_is_0 : decode cX11_is 0 = .ok (.iload_n 0, 1) := by decide +kernel
theorem dX11_is_1 : decode cX11_is 1 = .ok (.ifCond .eq 7, 3) := by decide +kernel
theorem dX11_is_4 : decode cX11_is 4 = .ok (.lconst 1, 1) := by decide +kernel
theorem dX11_is_5 : decode cX11_is 5 = .ok (.goto 4, 3) := by decide +kernel
theorem dX11_is_8 : decode cX11_is 8 = .ok (.lconst 0, 1) := by decide +kernel
theorem dX11_is_9 : decode cX11_is 9 = .ok (.lreturn, 1) := by decide +kernel
theorem dX11_works_0 : decode cX11_works 0 = .ok (.aload_n 0, 1) := by decide +kernel
theorem dX11_works_1 : decode cX11_works 1 = .ok (.getfield 90, 3) := by decide +kernel
theorem dX11_works_4 : decode cX11_works 4 = .ok (.aload_n 0, 1) := by decide +kernel
theorem dX11_works_5 : decode cX11_works 5 = .ok (.getfield 338, 3) := by decide +kernel
theorem dX11_works_8 : decode cX11_works 8 = .ok (.iconst 1, 1) := by decide +kernel
theorem dX11_works_9 : decode cX11_works 9 = .ok (.isub, 1) := by decide +kernel
theorem dX11_works_10 : decode cX11_works 10 = .ok (.laload, 1) := by decide +kernel
theorem dX11_works_11 : decode cX11_works 11 = .ok (.lstore_n 2, 1) := by decide +kernel
theorem dX11_works_12 : decode cX11_works 12 = .ok (.iload_n 1, 1) := by decide +kernel
theorem dX11_works_13 : decode cX11_works 13 = .ok (.sipush 260, 3) := by decide +kernel
theorem dX11_works_16 : decode cX11_works 16 = .ok (.if_icmp .ne 30, 3) := by decide +kernel
theorem dX11_works_19 : decode cX11_works 19 = .ok (.aload_n 0, 1) := by decide +kernel
theorem dX11_works_20 : decode cX11_works 20 = .ok (.getfield 90, 3) := by decide +kernel
theorem dX11_works_23 : decode cX11_works 23 = .ok (.aload_n 0, 1) := by decide +kernel
theorem dX11_works_24 : decode cX11_works 24 = .ok (.getfield 338, 3) := by decide +kernel
theorem dX11_works_27 : decode cX11_works 27 = .ok (.iconst 1, 1) := by decide +kernel
theorem dX11_works_28 : decode cX11_works 28 = .ok (.isub, 1) := by decide +kernel
theorem dX11_works_29 : decode cX11_works 29 = .ok (.lload_n 2, 1) := by decide +kernel
theorem dX11_works_30 : decode cX11_works 30 = .ok (.lconst 0, 1) := by decide +kernel
theorem dX11_works_31 : decode cX11_works 31 = .ok (.lcmp, 1) := by decide +kernel
theorem dX11_works_32 : decode cX11_works 32 = .ok (.ifCond .ne 7, 3) := by decide +kernel
theorem dX11_works_35 : decode cX11_works 35 = .ok (.iconst 1, 1) := by decide +kernel
theorem dX11_works_36 : decode cX11_works 36 = .ok (.goto 4, 3) := by decide +kernel
theorem dX11_works_39 : decode cX11_works 39 = .ok (.iconst 0, 1) := by decide +kernel
theorem dX11_works_40 : decode cX11_works 40 = .ok (.invokestatic 341, 3) := by decide +kernel
theorem dX11_works_43 : decode cX11_works 43 = .ok (.lastore, 1) := by decide +kernel
theorem dX11_works_44 : decode cX11_works 44 = .ok (.iconst 1, 1) := by decide +kernel
theorem dX11_works_45 : decode cX11_works 45 = .ok (.ireturn, 1) := by decide +kernel
theorem dX11_works_46 : decode cX11_works 46 = .ok (.aload_n 0, 1) := by decide +kernel
theorem dX11_works_47 : decode cX11_works 47 = .ok (.getfield 90, 3) := by decide +kernel
theorem dX11_works_50 : decode cX11_works 50 = .ok (.aload_n 0, 1) := by decide +kernel
theorem dX11_works_51 : decode cX11_works 51 = .ok (.getfield 338, 3) := by decide +kernel
theorem dX11_works_54 : decode cX11_works 54 = .ok (.iconst 2, 1) := by decide +kernel
theorem dX11_works_55 : decode cX11_works 55 = .ok (.isub, 1) := by decide +kernel
theorem dX11_works_56 : decode cX11_works 56 = .ok (.laload, 1) := by decide +kernel
theorem dX11_works_57 : decode cX11_works 57 = .ok (.lstore 4, 2) := by decide +kernel
theorem dX11_works_59 : decode cX11_works 59 = .ok (.aload_n 0, 1) := by decide +kernel
theorem dX11_works_60 : decode cX11_works 60 = .ok (.dup, 1) := by decide +kernel
theorem dX11_works_61 : decode cX11_works 61 = .ok (.getfield 338, 3) := by decide +kernel
theorem dX11_works_64 : decode cX11_works 64 = .ok (.iconst 1, 1) := by decide +kernel
theorem dX11_works_65 : decode cX11_works 65 = .ok (.isub, 1) := by decide +kernel
theorem dX11_works_66 : decode cX11_works 66 = .ok (.putfield 338, 3) := by decide +kernel
theorem dX11_works_69 : decode cX11_works 69 = .ok (.iload_n 1, 1) := by decide +kernel
theorem dX11_works_70 : decode cX11_works 70 = .ok (.lookupswitch 314 #[(42, 116), (43, 98), (45, 107), (47, 151), (60, 168), (61, 208), (62, 188), (256, 228), (257, 268), (258, 248), (261, 288)], 98) := by decide +kernel
theorem dX11_works_168 : decode cX11_works 168 = .ok (.lload 4, 2) := by decide +kernel
theorem dX11_works_170 : decode cX11_works 170 = .ok (.lload_n 2, 1) := by decide +kernel
theorem dX11_works_171 : decode cX11_works 171 = .ok (.ladd, 1) := by decide +kernel
theorem dX11_works_172 : decode cX11_works 172 = .ok (.lstore 6, 2) := by decide +kernel
theorem dX11_works_174 : decode cX11_works 174 = .ok (.goto 233, 3) := by decide +kernel
theorem dX11_works_177 : decode cX11_works 177 = .ok (.lload 4, 2) := by decide +kernel
theorem dX11_works_179 : decode cX11_works 179 = .ok (.lload_n 2, 1) := by decide +kernel
theorem dX11_works_180 : decode cX11_works 180 = .ok (.lsub, 1) := by decide +kernel
theorem dX11_works_181 : decode cX11_works 181 = .ok (.lstore 6, 2) := by decide +kernel
theorem dX11_works_183 : decode cX11_works 183 = .ok (.goto 224, 3) := by decide +kernel
theorem dX11_works_186 : decode cX11_works 186 = .ok (.lload 4, 2) := by decide +kernel
theorem dX11_works_188 : decode cX11_works 188 = .ok (.lconst 0, 1) := by decide +kernel
theorem dX11_works_189 : decode cX11_works 189 = .ok (.lcmp, 1) := by decide +kernel
theorem dX11_works_190 : decode cX11_works 190 = .ok (.ifCond .eq 22, 3) := by decide +kernel
theorem dX11_works_193 : decode cX11_works 193 = .ok (.lload_n 2, 1) := by decide +kernel
theorem dX11_works_194 : decode cX11_works 194 = .ok (.invokestatic 345, 3) := by decide +kernel
theorem dX11_works_197 : decode cX11_works 197 = .ok (.ldc2_w 351, 3) := by decide +kernel
theorem dX11_works_200 : decode cX11_works 200 = .ok (.lload 4, 2) := by decide +kernel
theorem dX11_works_202 : decode cX11_works 202 = .ok (.invokestatic 345, 3) := by decide +kernel
theorem dX11_works_205 : decode cX11_works 205 = .ok (.ldiv, 1) := by decide +kernel
theorem dX11_works_206 : decode cX11_works 206 = .ok (.lcmp, 1) := by decide +kernel
theorem dX11_works_207 : decode cX11_works 207 = .ok (.ifCond .le 5, 3) := by decide +kernel
theorem dX11_works_210 : decode cX11_works 210 = .ok (.iconst 0, 1) := by decide +kernel
theorem dX11_works_211 : decode cX11_works 211 = .ok (.ireturn, 1) := by decide +kernel
theorem dX11_works_212 : decode cX11_works 212 = .ok (.lload 4, 2) := by decide +kernel
theorem dX11_works_214 : decode cX11_works 214 = .ok (.lload_n 2, 1) := by decide +kernel
theorem dX11_works_215 : decode cX11_works 215 = .ok (.lmul, 1) := by decide +kernel
theorem dX11_works_216 : decode cX11_works 216 = .ok (.lstore 6, 2) := by decide +kernel
theorem dX11_works_218 : decode cX11_works 218 = .ok (.goto 189, 3) := by decide +kernel
theorem dX11_works_221 : decode cX11_works 221 = .ok (.lload_n 2, 1) := by decide +kernel
theorem dX11_works_222 : decode cX11_works 222 = .ok (.lconst 0, 1) := by decide +kernel
theorem dX11_works_223 : decode cX11_works 223 = .ok (.lcmp, 1) := by decide +kernel
theorem dX11_works_224 : decode cX11_works 224 = .ok (.ifCond .ne 5, 3) := by decide +kernel
theorem dX11_works_227 : decode cX11_works 227 = .ok (.iconst 0, 1) := by decide +kernel
theorem dX11_works_228 : decode cX11_works 228 = .ok (.ireturn, 1) := by decide +kernel
theorem dX11_works_229 : decode cX11_works 229 = .ok (.lload 4, 2) := by decide +kernel
theorem dX11_works_231 : decode cX11_works 231 = .ok (.lload_n 2, 1) := by decide +kernel
theorem dX11_works_232 : decode cX11_works 232 = .ok (.ldiv, 1) := by decide +kernel
theorem dX11_works_233 : decode cX11_works 233 = .ok (.lstore 6, 2) := by decide +kernel
theorem dX11_works_235 : decode cX11_works 235 = .ok (.goto 172, 3) := by decide +kernel
theorem dX11_works_238 : decode cX11_works 238 = .ok (.lload 4, 2) := by decide +kernel
theorem dX11_works_240 : decode cX11_works 240 = .ok (.lload_n 2, 1) := by decide +kernel
theorem dX11_works_241 : decode cX11_works 241 = .ok (.lcmp, 1) := by decide +kernel
theorem dX11_works_242 : decode cX11_works 242 = .ok (.ifCond .ge 7, 3) := by decide +kernel
theorem dX11_works_245 : decode cX11_works 245 = .ok (.iconst 1, 1) := by decide +kernel
theorem dX11_works_246 : decode cX11_works 246 = .ok (.goto 4, 3) := by decide +kernel
theorem dX11_works_249 : decode cX11_works 249 = .ok (.iconst 0, 1) := by decide +kernel
theorem dX11_works_250 : decode cX11_works 250 = .ok (.invokestatic 341, 3) := by decide +kernel
theorem dX11_works_253 : decode cX11_works 253 = .ok (.lstore 6, 2) := by decide +kernel
theorem dX11_works_255 : decode cX11_works 255 = .ok (.goto 152, 3) := by decide +kernel
theorem dX11_works_258 : decode cX11_works 258 = .ok (.lload 4, 2) := by decide +kernel
theorem dX11_works_260 : decode cX11_works 260 = .ok (.lload_n 2, 1) := by decide +kernel
theorem dX11_works_261 : decode cX11_works 261 = .ok (.lcmp, 1) := by decide +kernel
theorem dX11_works_262 : decode cX11_works 262 = .ok (.ifCond .le 7, 3) := by decide +kernel
theorem dX11_works_265 : decode cX11_works 265 = .ok (.iconst 1, 1) := by decide +kernel
theorem dX11_works_266 : decode cX11_works 266 = .ok (.goto 4, 3) := by decide +kernel
theorem dX11_works_269 : decode cX11_works 269 = .ok (.iconst 0, 1) := by decide +kernel
theorem dX11_works_270 : decode cX11_works 270 = .ok (.invokestatic 341, 3) := by decide +kernel
theorem dX11_works_273 : decode cX11_works 273 = .ok (.lstore 6, 2) := by decide +kernel
theorem dX11_works_275 : decode cX11_works 275 = .ok (.goto 132, 3) := by decide +kernel
theorem dX11_works_278 : decode cX11_works 278 = .ok (.lload 4, 2) := by decide +kernel
theorem dX11_works_280 : decode cX11_works 280 = .ok (.lload_n 2, 1) := by decide +kernel
theorem dX11_works_281 : decode cX11_works 281 = .ok (.lcmp, 1) := by decide +kernel
theorem dX11_works_282 : decode cX11_works 282 = .ok (.ifCond .ne 7, 3) := by decide +kernel
theorem dX11_works_285 : decode cX11_works 285 = .ok (.iconst 1, 1) := by decide +kernel
theorem dX11_works_286 : decode cX11_works 286 = .ok (.goto 4, 3) := by decide +kernel
theorem dX11_works_289 : decode cX11_works 289 = .ok (.iconst 0, 1) := by decide +kernel
theorem dX11_works_290 : decode cX11_works 290 = .ok (.invokestatic 341, 3) := by decide +kernel
theorem dX11_works_293 : decode cX11_works 293 = .ok (.lstore 6, 2) := by decide +kernel
theorem dX11_works_295 : decode cX11_works 295 = .ok (.goto 112, 3) := by decide +kernel
theorem dX11_works_298 : decode cX11_works 298 = .ok (.lload 4, 2) := by decide +kernel
theorem dX11_works_300 : decode cX11_works 300 = .ok (.lload_n 2, 1) := by decide +kernel
theorem dX11_works_301 : decode cX11_works 301 = .ok (.lcmp, 1) := by decide +kernel
theorem dX11_works_302 : decode cX11_works 302 = .ok (.ifCond .gt 7, 3) := by decide +kernel
theorem dX11_works_305 : decode cX11_works 305 = .ok (.iconst 1, 1) := by decide +kernel
theorem dX11_works_306 : decode cX11_works 306 = .ok (.goto 4, 3) := by decide +kernel
theorem dX11_works_309 : decode cX11_works 309 = .ok (.iconst 0, 1) := by decide +kernel
theorem dX11_works_310 : decode cX11_works 310 = .ok (.invokestatic 341, 3) := by decide +kernel
theorem dX11_works_313 : decode cX11_works 313 = .ok (.lstore 6, 2) := by decide +kernel
theorem dX11_works_315 : decode cX11_works 315 = .ok (.goto 92, 3) := by decide +kernel
theorem dX11_works_318 : decode cX11_works 318 = .ok (.lload 4, 2) := by decide +kernel
theorem dX11_works_320 : decode cX11_works 320 = .ok (.lload_n 2, 1) := by decide +kernel
theorem dX11_works_321 : decode cX11_works 321 = .ok (.lcmp, 1) := by decide +kernel
theorem dX11_works_322 : decode cX11_works 322 = .ok (.ifCond .lt 7, 3) := by decide +kernel
theorem dX11_works_325 : decode cX11_works 325 = .ok (.iconst 1, 1) := by decide +kernel
theorem dX11_works_326 : decode cX11_works 326 = .ok (.goto 4, 3) := by decide +kernel
theorem dX11_works_329 : decode cX11_works 329 = .ok (.iconst 0, 1) := by decide +kernel
theorem dX11_works_330 : decode cX11_works 330 = .ok (.invokestatic 341, 3) := by decide +kernel
theorem dX11_works_333 : decode cX11_works 333 = .ok (.lstore 6, 2) := by decide +kernel
theorem dX11_works_335 : decode cX11_works 335 = .ok (.goto 72, 3) := by decide +kernel
theorem dX11_works_338 : decode cX11_works 338 = .ok (.lload 4, 2) := by decide +kernel
theorem dX11_works_340 : decode cX11_works 340 = .ok (.lload_n 2, 1) := by decide +kernel
theorem dX11_works_341 : decode cX11_works 341 = .ok (.lcmp, 1) := by decide +kernel
theorem dX11_works_342 : decode cX11_works 342 = .ok (.ifCond .eq 7, 3) := by decide +kernel
theorem dX11_works_345 : decode cX11_works 345 = .ok (.iconst 1, 1) := by decide +kernel
theorem dX11_works_346 : decode cX11_works 346 = .ok (.goto 4, 3) := by decide +kernel
theorem dX11_works_349 : decode cX11_works 349 = .ok (.iconst 0, 1) := by decide +kernel
theorem dX11_works_350 : decode cX11_works 350 = .ok (.invokestatic 341, 3) := by decide +kernel
theorem dX11_works_353 : decode cX11_works 353 = .ok (.lstore 6, 2) := by decide +kernel
theorem dX11_works_355 : decode cX11_works 355 = .ok (.goto 52, 3) := by decide +kernel
theorem dX11_works_358 : decode cX11_works 358 = .ok (.lload 4, 2) := by decide +kernel
theorem dX11_works_360 : decode cX11_works 360 = .ok (.lconst 0, 1) := by decide +kernel
theorem dX11_works_361 : decode cX11_works 361 = .ok (.lcmp, 1) := by decide +kernel
theorem dX11_works_362 : decode cX11_works 362 = .ok (.ifCond .eq 13, 3) := by decide +kernel
theorem dX11_works_365 : decode cX11_works 365 = .ok (.lload_n 2, 1) := by decide +kernel
theorem dX11_works_366 : decode cX11_works 366 = .ok (.lconst 0, 1) := by decide +kernel
theorem dX11_works_367 : decode cX11_works 367 = .ok (.lcmp, 1) := by decide +kernel
theorem dX11_works_368 : decode cX11_works 368 = .ok (.ifCond .eq 7, 3) := by decide +kernel
theorem dX11_works_371 : decode cX11_works 371 = .ok (.iconst 1, 1) := by decide +kernel
theorem dX11_works_372 : decode cX11_works 372 = .ok (.goto 4, 3) := by decide +kernel
theorem dX11_works_375 : decode cX11_works 375 = .ok (.iconst 0, 1) := by decide +kernel
theorem dX11_works_376 : decode cX11_works 376 = .ok (.invokestatic 341, 3) := by decide +kernel
theorem dX11_works_379 : decode cX11_works 379 = .ok (.lstore 6, 2) := by decide +kernel
theorem dX11_works_381 : decode cX11_works 381 = .ok (.goto 26, 3) := by decide +kernel
theorem dX11_works_384 : decode cX11_works 384 = .ok (.lload 4, 2) := by decide +kernel
theorem dX11_works_386 : decode cX11_works 386 = .ok (.lconst 0, 1) := by decide +kernel
theorem dX11_works_387 : decode cX11_works 387 = .ok (.lcmp, 1) := by decide +kernel
theorem dX11_works_388 : decode cX11_works 388 = .ok (.ifCond .ne 9, 3) := by decide +kernel
theorem dX11_works_391 : decode cX11_works 391 = .ok (.lload_n 2, 1) := by decide +kernel
theorem dX11_works_392 : decode cX11_works 392 = .ok (.lconst 0, 1) := by decide +kernel
theorem dX11_works_393 : decode cX11_works 393 = .ok (.lcmp, 1) := by decide +kernel
theorem dX11_works_394 : decode cX11_works 394 = .ok (.ifCond .eq 7, 3) := by decide +kernel
theorem dX11_works_397 : decode cX11_works 397 = .ok (.iconst 1, 1) := by decide +kernel
theorem dX11_works_398 : decode cX11_works 398 = .ok (.goto 4, 3) := by decide +kernel
theorem dX11_works_401 : decode cX11_works 401 = .ok (.iconst 0, 1) := by decide +kernel
theorem dX11_works_402 : decode cX11_works 402 = .ok (.invokestatic 341, 3) := by decide +kernel
theorem dX11_works_405 : decode cX11_works 405 = .ok (.lstore 6, 2) := by decide +kernel
theorem dX11_works_407 : decode cX11_works 407 = .ok (.aload_n 0, 1) := by decide +kernel
theorem dX11_works_408 : decode cX11_works 408 = .ok (.getfield 90, 3) := by decide +kernel
theorem dX11_works_411 : decode cX11_works 411 = .ok (.aload_n 0, 1) := by decide +kernel
theorem dX11_works_412 : decode cX11_works 412 = .ok (.getfield 338, 3) := by decide +kernel
theorem dX11_works_415 : decode cX11_works 415 = .ok (.iconst 1, 1) := by decide +kernel
theorem dX11_works_416 : decode cX11_works 416 = .ok (.isub, 1) := by decide +kernel
theorem dX11_works_417 : decode cX11_works 417 = .ok (.lload 6, 2) := by decide +kernel
theorem dX11_works_419 : decode cX11_works 419 = .ok (.lastore, 1) := by decide +kernel
theorem dX11_works_420 : decode cX11_works 420 = .ok (.lload 6, 2) := by decide +kernel
theorem dX11_works_422 : decode cX11_works 422 = .ok (.ldc2_w 351, 3) := by decide +kernel
theorem dX11_works_425 : decode cX11_works 425 = .ok (.lcmp, 1) := by decide +kernel
theorem dX11_works_426 : decode cX11_works 426 = .ok (.ifCond .gt 16, 3) := by decide +kernel
theorem dX11_works_429 : decode cX11_works 429 = .ok (.lload 6, 2) := by decide +kernel
theorem dX11_works_431 : decode cX11_works 431 = .ok (.ldc2_w 353, 3) := by decide +kernel
theorem dX11_works_434 : decode cX11_works 434 = .ok (.lcmp, 1) := by decide +kernel
theorem dX11_works_435 : decode cX11_works 435 = .ok (.ifCond .lt 7, 3) := by decide +kernel
theorem dX11_works_438 : decode cX11_works 438 = .ok (.iconst 1, 1) := by decide +kernel
theorem dX11_works_439 : decode cX11_works 439 = .ok (.goto 4, 3) := by decide +kernel
theorem dX11_works_442 : decode cX11_works 442 = .ok (.iconst 0, 1) := by decide +kernel
theorem dX11_works_443 : decode cX11_works 443 = .ok (.ireturn, 1) := by decide +kernel
theorem dX11_goes_0 : decode cX11_goes 0 = .ok (.aload_n 0, 1) := by decide +kernel
theorem dX11_goes_1 : decode cX11_goes 1 = .ok (.iconst 0, 1) := by decide +kernel
theorem dX11_goes_2 : decode cX11_goes 2 = .ok (.putfield 338, 3) := by decide +kernel
theorem dX11_goes_5 : decode cX11_goes 5 = .ok (.aload_n 0, 1) := by decide +kernel
theorem dX11_goes_6 : decode cX11_goes 6 = .ok (.getfield 70, 3) := by decide +kernel
theorem dX11_goes_9 : decode cX11_goes 9 = .ok (.iload_n 1, 1) := by decide +kernel
theorem dX11_goes_10 : decode cX11_goes 10 = .ok (.iaload, 1) := by decide +kernel
theorem dX11_goes_11 : decode cX11_goes 11 = .ok (.istore_n 2, 1) := by decide +kernel
theorem dX11_goes_12 : decode cX11_goes 12 = .ok (.iload_n 2, 1) := by decide +kernel
theorem dX11_goes_13 : decode cX11_goes 13 = .ok (.aload_n 0, 1) := by decide +kernel
theorem dX11_goes_14 : decode cX11_goes 14 = .ok (.getfield 73, 3) := by decide +kernel
theorem dX11_goes_17 : decode cX11_goes 17 = .ok (.iload_n 1, 1) := by decide +kernel
theorem dX11_goes_18 : decode cX11_goes 18 = .ok (.iaload, 1) := by decide +kernel
theorem dX11_goes_19 : decode cX11_goes 19 = .ok (.if_icmp .ge 83, 3) := by decide +kernel
theorem dX11_goes_22 : decode cX11_goes 22 = .ok (.aload_n 0, 1) := by decide +kernel
theorem dX11_goes_23 : decode cX11_goes 23 = .ok (.getfield 76, 3) := by decide +kernel
theorem dX11_goes_26 : decode cX11_goes 26 = .ok (.iload_n 2, 1) := by decide +kernel
theorem dX11_goes_27 : decode cX11_goes 27 = .ok (.iaload, 1) := by decide +kernel
theorem dX11_goes_28 : decode cX11_goes 28 = .ok (.iconst 2, 1) := by decide +kernel
theorem dX11_goes_29 : decode cX11_goes 29 = .ok (.if_icmp .ne 18, 3) := by decide +kernel
theorem dX11_goes_32 : decode cX11_goes 32 = .ok (.aload_n 0, 1) := by decide +kernel
theorem dX11_goes_33 : decode cX11_goes 33 = .ok (.aload_n 0, 1) := by decide +kernel
theorem dX11_goes_34 : decode cX11_goes 34 = .ok (.getfield 79, 3) := by decide +kernel
theorem dX11_goes_37 : decode cX11_goes 37 = .ok (.iload_n 2, 1) := by decide +kernel
theorem dX11_goes_38 : decode cX11_goes 38 = .ok (.iaload, 1) := by decide +kernel
theorem dX11_goes_39 : decode cX11_goes 39 = .ok (.invokevirtual 355, 3) := by decide +kernel
theorem dX11_goes_42 : decode cX11_goes 42 = .ok (.ifCond .ne 54, 3) := by decide +kernel
theorem dX11_goes_45 : decode cX11_goes 45 = .ok (.iconst 0, 1) := by decide +kernel
theorem dX11_goes_46 : decode cX11_goes 46 = .ok (.ireturn, 1) := by decide +kernel
theorem dX11_goes_47 : decode cX11_goes 47 = .ok (.aload_n 0, 1) := by decide +kernel
theorem dX11_goes_48 : decode cX11_goes 48 = .ok (.getfield 90, 3) := by decide +kernel
theorem dX11_goes_51 : decode cX11_goes 51 = .ok (.aload_n 0, 1) := by decide +kernel
theorem dX11_goes_52 : decode cX11_goes 52 = .ok (.getfield 338, 3) := by decide +kernel
theorem dX11_goes_55 : decode cX11_goes 55 = .ok (.aload_n 0, 1) := by decide +kernel
theorem dX11_goes_56 : decode cX11_goes 56 = .ok (.getfield 76, 3) := by decide +kernel
theorem dX11_goes_59 : decode cX11_goes 59 = .ok (.iload_n 2, 1) := by decide +kernel
theorem dX11_goes_60 : decode cX11_goes 60 = .ok (.iaload, 1) := by decide +kernel
theorem dX11_goes_61 : decode cX11_goes 61 = .ok (.ifCond .ne 13, 3) := by decide +kernel
theorem dX11_goes_64 : decode cX11_goes 64 = .ok (.aload_n 0, 1) := by decide +kernel
theorem dX11_goes_65 : decode cX11_goes 65 = .ok (.getfield 79, 3) := by decide +kernel
theorem dX11_goes_68 : decode cX11_goes 68 = .ok (.iload_n 2, 1) := by decide +kernel
theorem dX11_goes_69 : decode cX11_goes 69 = .ok (.iaload, 1) := by decide +kernel
theorem dX11_goes_70 : decode cX11_goes 70 = .ok (.i2l, 1) := by decide +kernel
theorem dX11_goes_71 : decode cX11_goes 71 = .ok (.goto 14, 3) := by decide +kernel
theorem dX11_goes_74 : decode cX11_goes 74 = .ok (.aload_n 0, 1) := by decide +kernel
theorem dX11_goes_75 : decode cX11_goes 75 = .ok (.getfield 86, 3) := by decide +kernel
theorem dX11_goes_78 : decode cX11_goes 78 = .ok (.aload_n 0, 1) := by decide +kernel
theorem dX11_goes_79 : decode cX11_goes 79 = .ok (.getfield 79, 3) := by decide +kernel
theorem dX11_goes_82 : decode cX11_goes 82 = .ok (.iload_n 2, 1) := by decide +kernel
theorem dX11_goes_83 : decode cX11_goes 83 = .ok (.iaload, 1) := by decide +kernel
theorem dX11_goes_84 : decode cX11_goes 84 = .ok (.laload, 1) := by decide +kernel
theorem dX11_goes_85 : decode cX11_goes 85 = .ok (.lastore, 1) := by decide +kernel
theorem dX11_goes_86 : decode cX11_goes 86 = .ok (.aload_n 0, 1) := by decide +kernel
theorem dX11_goes_87 : decode cX11_goes 87 = .ok (.dup, 1) := by decide +kernel
theorem dX11_goes_88 : decode cX11_goes 88 = .ok (.getfield 338, 3) := by decide +kernel
theorem dX11_goes_91 : decode cX11_goes 91 = .ok (.iconst 1, 1) := by decide +kernel
theorem dX11_goes_92 : decode cX11_goes 92 = .ok (.iadd, 1) := by decide +kernel
theorem dX11_goes_93 : decode cX11_goes 93 = .ok (.putfield 338, 3) := by decide +kernel
theorem dX11_goes_96 : decode cX11_goes 96 = .ok (.iinc 2 1, 3) := by decide +kernel
theorem dX11_goes_99 : decode cX11_goes 99 = .ok (.goto (-87), 3) := by decide +kernel
theorem dX11_goes_102 : decode cX11_goes 102 = .ok (.iconst 1, 1) := by decide +kernel
theorem dX11_goes_103 : decode cX11_goes 103 = .ok (.ireturn, 1) := by decide +kernel
theorem dX11_hasLaw_0 : decode cX11_hasLaw 0 = .ok (.aload_n 0, 1) := by decide +kernel
theorem dX11_hasLaw_1 : decode cX11_hasLaw 1 = .ok (.getfield 73, 3) := by decide +kernel
theorem dX11_hasLaw_4 : decode cX11_hasLaw 4 = .ok (.iload_n 1, 1) := by decide +kernel
theorem dX11_hasLaw_5 : decode cX11_hasLaw 5 = .ok (.iaload, 1) := by decide +kernel
theorem dX11_hasLaw_6 : decode cX11_hasLaw 6 = .ok (.aload_n 0, 1) := by decide +kernel
theorem dX11_hasLaw_7 : decode cX11_hasLaw 7 = .ok (.getfield 70, 3) := by decide +kernel
theorem dX11_hasLaw_10 : decode cX11_hasLaw 10 = .ok (.iload_n 1, 1) := by decide +kernel
theorem dX11_hasLaw_11 : decode cX11_hasLaw 11 = .ok (.iaload, 1) := by decide +kernel
theorem dX11_hasLaw_12 : decode cX11_hasLaw 12 = .ok (.if_icmp .le 7, 3) := by decide +kernel
theorem dX11_hasLaw_15 : decode cX11_hasLaw 15 = .ok (.iconst 1, 1) := by decide +kernel
theorem dX11_hasLaw_16 : decode cX11_hasLaw 16 = .ok (.goto 4, 3) := by decide +kernel
theorem dX11_hasLaw_19 : decode cX11_hasLaw 19 = .ok (.iconst 0, 1) := by decide +kernel
theorem dX11_hasLaw_20 : decode cX11_hasLaw 20 = .ok (.ireturn, 1) := by decide +kernel
theorem dX11_starts_0 : decode cX11_starts 0 = .ok (.aload_n 0, 1) := by decide +kernel
theorem dX11_starts_1 : decode cX11_starts 1 = .ok (.getfield 93, 3) := by decide +kernel
theorem dX11_starts_4 : decode cX11_starts 4 = .ok (.iload_n 1, 1) := by decide +kernel
theorem dX11_starts_5 : decode cX11_starts 5 = .ok (.iconst 0, 1) := by decide +kernel
theorem dX11_starts_6 : decode cX11_starts 6 = .ok (.iastore, 1) := by decide +kernel
theorem dX11_starts_7 : decode cX11_starts 7 = .ok (.aload_n 0, 1) := by decide +kernel
theorem dX11_starts_8 : decode cX11_starts 8 = .ok (.getfield 96, 3) := by decide +kernel
theorem dX11_starts_11 : decode cX11_starts 11 = .ok (.iload_n 1, 1) := by decide +kernel
theorem dX11_starts_12 : decode cX11_starts 12 = .ok (.aload_n 0, 1) := by decide +kernel
theorem dX11_starts_13 : decode cX11_starts 13 = .ok (.getfield 13, 3) := by decide +kernel
theorem dX11_starts_16 : decode cX11_starts 16 = .ok (.bipush 11, 2) := by decide +kernel
theorem dX11_starts_18 : decode cX11_starts 18 = .ok (.iaload, 1) := by decide +kernel
theorem dX11_starts_19 : decode cX11_starts 19 = .ok (.iastore, 1) := by decide +kernel
theorem dX11_starts_20 : decode cX11_starts 20 = .ok (.aload_n 0, 1) := by decide +kernel
theorem dX11_starts_21 : decode cX11_starts 21 = .ok (.getfield 99, 3) := by decide +kernel
theorem dX11_starts_24 : decode cX11_starts 24 = .ok (.iload_n 1, 1) := by decide +kernel
theorem dX11_starts_25 : decode cX11_starts 25 = .ok (.iconst 0, 1) := by decide +kernel
theorem dX11_starts_26 : decode cX11_starts 26 = .ok (.iastore, 1) := by decide +kernel
theorem dX11_starts_27 : decode cX11_starts 27 = .ok (.aload_n 0, 1) := by decide +kernel
theorem dX11_starts_28 : decode cX11_starts 28 = .ok (.getfield 102, 3) := by decide +kernel
theorem dX11_starts_31 : decode cX11_starts 31 = .ok (.iload_n 1, 1) := by decide +kernel
theorem dX11_starts_32 : decode cX11_starts 32 = .ok (.aload_n 0, 1) := by decide +kernel
theorem dX11_starts_33 : decode cX11_starts 33 = .ok (.getfield 13, 3) := by decide +kernel
theorem dX11_starts_36 : decode cX11_starts 36 = .ok (.iconst 2, 1) := by decide +kernel
theorem dX11_starts_37 : decode cX11_starts 37 = .ok (.iaload, 1) := by decide +kernel
theorem dX11_starts_38 : decode cX11_starts 38 = .ok (.iastore, 1) := by decide +kernel
theorem dX11_starts_39 : decode cX11_starts 39 = .ok (.aload_n 0, 1) := by decide +kernel
theorem dX11_starts_40 : decode cX11_starts 40 = .ok (.getfield 105, 3) := by decide +kernel
theorem dX11_starts_43 : decode cX11_starts 43 = .ok (.iload_n 1, 1) := by decide +kernel
theorem dX11_starts_44 : decode cX11_starts 44 = .ok (.aload_n 0, 1) := by decide +kernel
theorem dX11_starts_45 : decode cX11_starts 45 = .ok (.getfield 13, 3) := by decide +kernel
theorem dX11_starts_48 : decode cX11_starts 48 = .ok (.iconst 3, 1) := by decide +kernel
theorem dX11_starts_49 : decode cX11_starts 49 = .ok (.iaload, 1) := by decide +kernel
theorem dX11_starts_50 : decode cX11_starts 50 = .ok (.iastore, 1) := by decide +kernel
theorem dX11_starts_51 : decode cX11_starts 51 = .ok (.aload_n 0, 1) := by decide +kernel
theorem dX11_starts_52 : decode cX11_starts 52 = .ok (.getfield 108, 3) := by decide +kernel
theorem dX11_starts_55 : decode cX11_starts 55 = .ok (.iload_n 1, 1) := by decide +kernel
theorem dX11_starts_56 : decode cX11_starts 56 = .ok (.iconst 0, 1) := by decide +kernel
theorem dX11_starts_57 : decode cX11_starts 57 = .ok (.iastore, 1) := by decide +kernel
theorem dX11_starts_58 : decode cX11_starts 58 = .ok (.aload_n 0, 1) := by decide +kernel
theorem dX11_starts_59 : decode cX11_starts 59 = .ok (.getfield 111, 3) := by decide +kernel
theorem dX11_starts_62 : decode cX11_starts 62 = .ok (.iload_n 1, 1) := by decide +kernel
theorem dX11_starts_63 : decode cX11_starts 63 = .ok (.iconst 0, 1) := by decide +kernel
theorem dX11_starts_64 : decode cX11_starts 64 = .ok (.iastore, 1) := by decide +kernel
theorem dX11_starts_65 : decode cX11_starts 65 = .ok (.aload_n 0, 1) := by decide +kernel
theorem dX11_starts_66 : decode cX11_starts 66 = .ok (.getfield 114, 3) := by decide +kernel
theorem dX11_starts_69 : decode cX11_starts 69 = .ok (.iload_n 1, 1) := by decide +kernel
theorem dX11_starts_70 : decode cX11_starts 70 = .ok (.iconst 1, 1) := by decide +kernel
theorem dX11_starts_71 : decode cX11_starts 71 = .ok (.aload_n 0, 1) := by decide +kernel
theorem dX11_starts_72 : decode cX11_starts 72 = .ok (.getfield 13, 3) := by decide +kernel
theorem dX11_starts_75 : decode cX11_starts 75 = .ok (.bipush 6, 2) := by decide +kernel
theorem dX11_starts_77 : decode cX11_starts 77 = .ok (.iaload, 1) := by decide +kernel
theorem dX11_starts_78 : decode cX11_starts 78 = .ok (.ishl, 1) := by decide +kernel
theorem dX11_starts_79 : decode cX11_starts 79 = .ok (.iconst 1, 1) := by decide +kernel
theorem dX11_starts_80 : decode cX11_starts 80 = .ok (.isub, 1) := by decide +kernel
theorem dX11_starts_81 : decode cX11_starts 81 = .ok (.iastore, 1) := by decide +kernel
theorem dX11_starts_82 : decode cX11_starts 82 = .ok (.aload_n 0, 1) := by decide +kernel
theorem dX11_starts_83 : decode cX11_starts 83 = .ok (.getfield 117, 3) := by decide +kernel
theorem dX11_starts_86 : decode cX11_starts 86 = .ok (.iload_n 1, 1) := by decide +kernel
theorem dX11_starts_87 : decode cX11_starts 87 = .ok (.iconst 0, 1) := by decide +kernel
theorem dX11_starts_88 : decode cX11_starts 88 = .ok (.iastore, 1) := by decide +kernel
theorem dX11_starts_89 : decode cX11_starts 89 = .ok (.iconst 0, 1) := by decide +kernel
theorem dX11_starts_90 : decode cX11_starts 90 = .ok (.istore_n 2, 1) := by decide +kernel
theorem dX11_starts_91 : decode cX11_starts 91 = .ok (.iload_n 2, 1) := by decide +kernel
theorem dX11_starts_92 : decode cX11_starts 92 = .ok (.iconst 4, 1) := by decide +kernel
theorem dX11_starts_93 : decode cX11_starts 93 = .ok (.if_icmp .ge 42, 3) := by decide +kernel
theorem dX11_starts_96 : decode cX11_starts 96 = .ok (.aload_n 0, 1) := by decide +kernel
theorem dX11_starts_97 : decode cX11_starts 97 = .ok (.getfield 120, 3) := by decide +kernel
theorem dX11_starts_100 : decode cX11_starts 100 = .ok (.iconst 4, 1) := by decide +kernel
theorem dX11_starts_101 : decode cX11_starts 101 = .ok (.iload_n 1, 1) := by decide +kernel
theorem dX11_starts_102 : decode cX11_starts 102 = .ok (.imul, 1) := by decide +kernel
theorem dX11_starts_103 : decode cX11_starts 103 = .ok (.iload_n 2, 1) := by decide +kernel
theorem dX11_starts_104 : decode cX11_starts 104 = .ok (.iadd, 1) := by decide +kernel
theorem dX11_starts_105 : decode cX11_starts 105 = .ok (.iconst 0, 1) := by decide +kernel
theorem dX11_starts_106 : decode cX11_starts 106 = .ok (.iastore, 1) := by decide +kernel
theorem dX11_starts_107 : decode cX11_starts 107 = .ok (.aload_n 0, 1) := by decide +kernel
theorem dX11_starts_108 : decode cX11_starts 108 = .ok (.getfield 123, 3) := by decide +kernel
theorem dX11_starts_111 : decode cX11_starts 111 = .ok (.iconst 4, 1) := by decide +kernel
theorem dX11_starts_112 : decode cX11_starts 112 = .ok (.iload_n 1, 1) := by decide +kernel
theorem dX11_starts_113 : decode cX11_starts 113 = .ok (.imul, 1) := by decide +kernel
theorem dX11_starts_114 : decode cX11_starts 114 = .ok (.iload_n 2, 1) := by decide +kernel
theorem dX11_starts_115 : decode cX11_starts 115 = .ok (.iadd, 1) := by decide +kernel
theorem dX11_starts_116 : decode cX11_starts 116 = .ok (.iconst 0, 1) := by decide +kernel
theorem dX11_starts_117 : decode cX11_starts 117 = .ok (.iastore, 1) := by decide +kernel
theorem dX11_starts_118 : decode cX11_starts 118 = .ok (.aload_n 0, 1) := by decide +kernel
theorem dX11_starts_119 : decode cX11_starts 119 = .ok (.getfield 126, 3) := by decide +kernel
theorem dX11_starts_122 : decode cX11_starts 122 = .ok (.iconst 4, 1) := by decide +kernel
theorem dX11_starts_123 : decode cX11_starts 123 = .ok (.iload_n 1, 1) := by decide +kernel
theorem dX11_starts_124 : decode cX11_starts 124 = .ok (.imul, 1) := by decide +kernel
theorem dX11_starts_125 : decode cX11_starts 125 = .ok (.iload_n 2, 1) := by decide +kernel
theorem dX11_starts_126 : decode cX11_starts 126 = .ok (.iadd, 1) := by decide +kernel
theorem dX11_starts_127 : decode cX11_starts 127 = .ok (.iconst 0, 1) := by decide +kernel
theorem dX11_starts_128 : decode cX11_starts 128 = .ok (.iastore, 1) := by decide +kernel
theorem dX11_starts_129 : decode cX11_starts 129 = .ok (.iinc 2 1, 3) := by decide +kernel
theorem dX11_starts_132 : decode cX11_starts 132 = .ok (.goto (-41), 3) := by decide +kernel
theorem dX11_starts_135 : decode cX11_starts 135 = .ok (.return_, 1) := by decide +kernel
theorem dX11_begins_0 : decode cX11_begins 0 = .ok (.aload_n 0, 1) := by decide +kernel
theorem dX11_begins_1 : decode cX11_begins 1 = .ok (.iconst 0, 1) := by decide +kernel
theorem dX11_begins_2 : decode cX11_begins 2 = .ok (.invokevirtual 358, 3) := by decide +kernel
theorem dX11_begins_5 : decode cX11_begins 5 = .ok (.return_, 1) := by decide +kernel
theorem dX11_copies_0 : decode cX11_copies 0 = .ok (.aload_n 0, 1) := by decide +kernel
theorem dX11_copies_1 : decode cX11_copies 1 = .ok (.getfield 93, 3) := by decide +kernel
theorem dX11_copies_4 : decode cX11_copies 4 = .ok (.iload_n 1, 1) := by decide +kernel
theorem dX11_copies_5 : decode cX11_copies 5 = .ok (.aload_n 0, 1) := by decide +kernel
theorem dX11_copies_6 : decode cX11_copies 6 = .ok (.getfield 93, 3) := by decide +kernel
theorem dX11_copies_9 : decode cX11_copies 9 = .ok (.iload_n 2, 1) := by decide +kernel
theorem dX11_copies_10 : decode cX11_copies 10 = .ok (.iaload, 1) := by decide +kernel
theorem dX11_copies_11 : decode cX11_copies 11 = .ok (.iastore, 1) := by decide +kernel
theorem dX11_copies_12 : decode cX11_copies 12 = .ok (.aload_n 0, 1) := by decide +kernel
theorem dX11_copies_13 : decode cX11_copies 13 = .ok (.getfield 96, 3) := by decide +kernel
theorem dX11_copies_16 : decode cX11_copies 16 = .ok (.iload_n 1, 1) := by decide +kernel
theorem dX11_copies_17 : decode cX11_copies 17 = .ok (.aload_n 0, 1) := by decide +kernel
theorem dX11_copies_18 : decode cX11_copies 18 = .ok (.getfield 96, 3) := by decide +kernel
theorem dX11_copies_21 : decode cX11_copies 21 = .ok (.iload_n 2, 1) := by decide +kernel
theorem dX11_copies_22 : decode cX11_copies 22 = .ok (.iaload, 1) := by decide +kernel
theorem dX11_copies_23 : decode cX11_copies 23 = .ok (.iastore, 1) := by decide +kernel
theorem dX11_copies_24 : decode cX11_copies 24 = .ok (.aload_n 0, 1) := by decide +kernel
theorem dX11_copies_25 : decode cX11_copies 25 = .ok (.getfield 99, 3) := by decide +kernel
theorem dX11_copies_28 : decode cX11_copies 28 = .ok (.iload_n 1, 1) := by decide +kernel
theorem dX11_copies_29 : decode cX11_copies 29 = .ok (.aload_n 0, 1) := by decide +kernel
theorem dX11_copies_30 : decode cX11_copies 30 = .ok (.getfield 99, 3) := by decide +kernel
theorem dX11_copies_33 : decode cX11_copies 33 = .ok (.iload_n 2, 1) := by decide +kernel
theorem dX11_copies_34 : decode cX11_copies 34 = .ok (.iaload, 1) := by decide +kernel
theorem dX11_copies_35 : decode cX11_copies 35 = .ok (.iastore, 1) := by decide +kernel
theorem dX11_copies_36 : decode cX11_copies 36 = .ok (.aload_n 0, 1) := by decide +kernel
theorem dX11_copies_37 : decode cX11_copies 37 = .ok (.getfield 102, 3) := by decide +kernel
theorem dX11_copies_40 : decode cX11_copies 40 = .ok (.iload_n 1, 1) := by decide +kernel
theorem dX11_copies_41 : decode cX11_copies 41 = .ok (.aload_n 0, 1) := by decide +kernel
theorem dX11_copies_42 : decode cX11_copies 42 = .ok (.getfield 102, 3) := by decide +kernel
theorem dX11_copies_45 : decode cX11_copies 45 = .ok (.iload_n 2, 1) := by decide +kernel
theorem dX11_copies_46 : decode cX11_copies 46 = .ok (.iaload, 1) := by decide +kernel
theorem dX11_copies_47 : decode cX11_copies 47 = .ok (.iastore, 1) := by decide +kernel
theorem dX11_copies_48 : decode cX11_copies 48 = .ok (.aload_n 0, 1) := by decide +kernel
theorem dX11_copies_49 : decode cX11_copies 49 = .ok (.getfield 105, 3) := by decide +kernel
theorem dX11_copies_52 : decode cX11_copies 52 = .ok (.iload_n 1, 1) := by decide +kernel
theorem dX11_copies_53 : decode cX11_copies 53 = .ok (.aload_n 0, 1) := by decide +kernel
theorem dX11_copies_54 : decode cX11_copies 54 = .ok (.getfield 105, 3) := by decide +kernel
theorem dX11_copies_57 : decode cX11_copies 57 = .ok (.iload_n 2, 1) := by decide +kernel
theorem dX11_copies_58 : decode cX11_copies 58 = .ok (.iaload, 1) := by decide +kernel
theorem dX11_copies_59 : decode cX11_copies 59 = .ok (.iastore, 1) := by decide +kernel
theorem dX11_copies_60 : decode cX11_copies 60 = .ok (.aload_n 0, 1) := by decide +kernel
theorem dX11_copies_61 : decode cX11_copies 61 = .ok (.getfield 108, 3) := by decide +kernel
theorem dX11_copies_64 : decode cX11_copies 64 = .ok (.iload_n 1, 1) := by decide +kernel
theorem dX11_copies_65 : decode cX11_copies 65 = .ok (.aload_n 0, 1) := by decide +kernel
theorem dX11_copies_66 : decode cX11_copies 66 = .ok (.getfield 108, 3) := by decide +kernel
theorem dX11_copies_69 : decode cX11_copies 69 = .ok (.iload_n 2, 1) := by decide +kernel
theorem dX11_copies_70 : decode cX11_copies 70 = .ok (.iaload, 1) := by decide +kernel
theorem dX11_copies_71 : decode cX11_copies 71 = .ok (.iastore, 1) := by decide +kernel
theorem dX11_copies_72 : decode cX11_copies 72 = .ok (.aload_n 0, 1) := by decide +kernel
theorem dX11_copies_73 : decode cX11_copies 73 = .ok (.getfield 111, 3) := by decide +kernel
theorem dX11_copies_76 : decode cX11_copies 76 = .ok (.iload_n 1, 1) := by decide +kernel
theorem dX11_copies_77 : decode cX11_copies 77 = .ok (.aload_n 0, 1) := by decide +kernel
theorem dX11_copies_78 : decode cX11_copies 78 = .ok (.getfield 111, 3) := by decide +kernel
theorem dX11_copies_81 : decode cX11_copies 81 = .ok (.iload_n 2, 1) := by decide +kernel
theorem dX11_copies_82 : decode cX11_copies 82 = .ok (.iaload, 1) := by decide +kernel
theorem dX11_copies_83 : decode cX11_copies 83 = .ok (.iastore, 1) := by decide +kernel
theorem dX11_copies_84 : decode cX11_copies 84 = .ok (.aload_n 0, 1) := by decide +kernel
theorem dX11_copies_85 : decode cX11_copies 85 = .ok (.getfield 114, 3) := by decide +kernel
theorem dX11_copies_88 : decode cX11_copies 88 = .ok (.iload_n 1, 1) := by decide +kernel
theorem dX11_copies_89 : decode cX11_copies 89 = .ok (.aload_n 0, 1) := by decide +kernel
theorem dX11_copies_90 : decode cX11_copies 90 = .ok (.getfield 114, 3) := by decide +kernel
theorem dX11_copies_93 : decode cX11_copies 93 = .ok (.iload_n 2, 1) := by decide +kernel
theorem dX11_copies_94 : decode cX11_copies 94 = .ok (.iaload, 1) := by decide +kernel
theorem dX11_copies_95 : decode cX11_copies 95 = .ok (.iastore, 1) := by decide +kernel
theorem dX11_copies_96 : decode cX11_copies 96 = .ok (.aload_n 0, 1) := by decide +kernel
theorem dX11_copies_97 : decode cX11_copies 97 = .ok (.getfield 117, 3) := by decide +kernel
theorem dX11_copies_100 : decode cX11_copies 100 = .ok (.iload_n 1, 1) := by decide +kernel
theorem dX11_copies_101 : decode cX11_copies 101 = .ok (.aload_n 0, 1) := by decide +kernel
theorem dX11_copies_102 : decode cX11_copies 102 = .ok (.getfield 117, 3) := by decide +kernel
theorem dX11_copies_105 : decode cX11_copies 105 = .ok (.iload_n 2, 1) := by decide +kernel
theorem dX11_copies_106 : decode cX11_copies 106 = .ok (.iaload, 1) := by decide +kernel
theorem dX11_copies_107 : decode cX11_copies 107 = .ok (.iastore, 1) := by decide +kernel
theorem dX11_copies_108 : decode cX11_copies 108 = .ok (.iconst 0, 1) := by decide +kernel
theorem dX11_copies_109 : decode cX11_copies 109 = .ok (.istore_n 3, 1) := by decide +kernel
theorem dX11_copies_110 : decode cX11_copies 110 = .ok (.iload_n 3, 1) := by decide +kernel
theorem dX11_copies_111 : decode cX11_copies 111 = .ok (.iconst 4, 1) := by decide +kernel
theorem dX11_copies_112 : decode cX11_copies 112 = .ok (.if_icmp .ge 69, 3) := by decide +kernel
theorem dX11_copies_115 : decode cX11_copies 115 = .ok (.aload_n 0, 1) := by decide +kernel
theorem dX11_copies_116 : decode cX11_copies 116 = .ok (.getfield 120, 3) := by decide +kernel
theorem dX11_copies_119 : decode cX11_copies 119 = .ok (.iconst 4, 1) := by decide +kernel
theorem dX11_copies_120 : decode cX11_copies 120 = .ok (.iload_n 1, 1) := by decide +kernel
theorem dX11_copies_121 : decode cX11_copies 121 = .ok (.imul, 1) := by decide +kernel
theorem dX11_copies_122 : decode cX11_copies 122 = .ok (.iload_n 3, 1) := by decide +kernel
theorem dX11_copies_123 : decode cX11_copies 123 = .ok (.iadd, 1) := by decide +kernel
theorem dX11_copies_124 : decode cX11_copies 124 = .ok (.aload_n 0, 1) := by decide +kernel
theorem dX11_copies_125 : decode cX11_copies 125 = .ok (.getfield 120, 3) := by decide +kernel
theorem dX11_copies_128 : decode cX11_copies 128 = .ok (.iconst 4, 1) := by decide +kernel
theorem dX11_copies_129 : decode cX11_copies 129 = .ok (.iload_n 2, 1) := by decide +kernel
theorem dX11_copies_130 : decode cX11_copies 130 = .ok (.imul, 1) := by decide +kernel
theorem dX11_copies_131 : decode cX11_copies 131 = .ok (.iload_n 3, 1) := by decide +kernel
theorem dX11_copies_132 : decode cX11_copies 132 = .ok (.iadd, 1) := by decide +kernel
theorem dX11_copies_133 : decode cX11_copies 133 = .ok (.iaload, 1) := by decide +kernel
theorem dX11_copies_134 : decode cX11_copies 134 = .ok (.iastore, 1) := by decide +kernel
theorem dX11_copies_135 : decode cX11_copies 135 = .ok (.aload_n 0, 1) := by decide +kernel
theorem dX11_copies_136 : decode cX11_copies 136 = .ok (.getfield 123, 3) := by decide +kernel
theorem dX11_copies_139 : decode cX11_copies 139 = .ok (.iconst 4, 1) := by decide +kernel
theorem dX11_copies_140 : decode cX11_copies 140 = .ok (.iload_n 1, 1) := by decide +kernel
theorem dX11_copies_141 : decode cX11_copies 141 = .ok (.imul, 1) := by decide +kernel
theorem dX11_copies_142 : decode cX11_copies 142 = .ok (.iload_n 3, 1) := by decide +kernel
theorem dX11_copies_143 : decode cX11_copies 143 = .ok (.iadd, 1) := by decide +kernel
theorem dX11_copies_144 : decode cX11_copies 144 = .ok (.aload_n 0, 1) := by decide +kernel
theorem dX11_copies_145 : decode cX11_copies 145 = .ok (.getfield 123, 3) := by decide +kernel
theorem dX11_copies_148 : decode cX11_copies 148 = .ok (.iconst 4, 1) := by decide +kernel
theorem dX11_copies_149 : decode cX11_copies 149 = .ok (.iload_n 2, 1) := by decide +kernel
theorem dX11_copies_150 : decode cX11_copies 150 = .ok (.imul, 1) := by decide +kernel
theorem dX11_copies_151 : decode cX11_copies 151 = .ok (.iload_n 3, 1) := by decide +kernel
theorem dX11_copies_152 : decode cX11_copies 152 = .ok (.iadd, 1) := by decide +kernel
theorem dX11_copies_153 : decode cX11_copies 153 = .ok (.iaload, 1) := by decide +kernel
theorem dX11_copies_154 : decode cX11_copies 154 = .ok (.iastore, 1) := by decide +kernel
theorem dX11_copies_155 : decode cX11_copies 155 = .ok (.aload_n 0, 1) := by decide +kernel
theorem dX11_copies_156 : decode cX11_copies 156 = .ok (.getfield 126, 3) := by decide +kernel
theorem dX11_copies_159 : decode cX11_copies 159 = .ok (.iconst 4, 1) := by decide +kernel
theorem dX11_copies_160 : decode cX11_copies 160 = .ok (.iload_n 1, 1) := by decide +kernel
theorem dX11_copies_161 : decode cX11_copies 161 = .ok (.imul, 1) := by decide +kernel
theorem dX11_copies_162 : decode cX11_copies 162 = .ok (.iload_n 3, 1) := by decide +kernel
theorem dX11_copies_163 : decode cX11_copies 163 = .ok (.iadd, 1) := by decide +kernel
theorem dX11_copies_164 : decode cX11_copies 164 = .ok (.aload_n 0, 1) := by decide +kernel
theorem dX11_copies_165 : decode cX11_copies 165 = .ok (.getfield 126, 3) := by decide +kernel
theorem dX11_copies_168 : decode cX11_copies 168 = .ok (.iconst 4, 1) := by decide +kernel
theorem dX11_copies_169 : decode cX11_copies 169 = .ok (.iload_n 2, 1) := by decide +kernel
theorem dX11_copies_170 : decode cX11_copies 170 = .ok (.imul, 1) := by decide +kernel
theorem dX11_copies_171 : decode cX11_copies 171 = .ok (.iload_n 3, 1) := by decide +kernel
theorem dX11_copies_172 : decode cX11_copies 172 = .ok (.iadd, 1) := by decide +kernel
theorem dX11_copies_173 : decode cX11_copies 173 = .ok (.iaload, 1) := by decide +kernel
theorem dX11_copies_174 : decode cX11_copies 174 = .ok (.iastore, 1) := by decide +kernel
theorem dX11_copies_175 : decode cX11_copies 175 = .ok (.iinc 3 1, 3) := by decide +kernel
theorem dX11_copies_178 : decode cX11_copies 178 = .ok (.goto (-68), 3) := by decide +kernel
theorem dX11_copies_181 : decode cX11_copies 181 = .ok (.return_, 1) := by decide +kernel
theorem dX11_isCell_0 : decode cX11_isCell 0 = .ok (.iload_n 1, 1) := by decide +kernel
theorem dX11_isCell_1 : decode cX11_isCell 1 = .ok (.ifCond .lt 31, 3) := by decide +kernel
theorem dX11_isCell_4 : decode cX11_isCell 4 = .ok (.iload_n 1, 1) := by decide +kernel
theorem dX11_isCell_5 : decode cX11_isCell 5 = .ok (.aload_n 0, 1) := by decide +kernel
theorem dX11_isCell_6 : decode cX11_isCell 6 = .ok (.getfield 13, 3) := by decide +kernel
theorem dX11_isCell_9 : decode cX11_isCell 9 = .ok (.iconst 0, 1) := by decide +kernel
theorem dX11_isCell_10 : decode cX11_isCell 10 = .ok (.iaload, 1) := by decide +kernel
theorem dX11_isCell_11 : decode cX11_isCell 11 = .ok (.if_icmp .ge 21, 3) := by decide +kernel
theorem dX11_isCell_14 : decode cX11_isCell 14 = .ok (.iload_n 2, 1) := by decide +kernel
theorem dX11_isCell_15 : decode cX11_isCell 15 = .ok (.ifCond .lt 17, 3) := by decide +kernel
theorem dX11_isCell_18 : decode cX11_isCell 18 = .ok (.iload_n 2, 1) := by decide +kernel
theorem dX11_isCell_19 : decode cX11_isCell 19 = .ok (.aload_n 0, 1) := by decide +kernel
theorem dX11_isCell_20 : decode cX11_isCell 20 = .ok (.getfield 13, 3) := by decide +kernel
theorem dX11_isCell_23 : decode cX11_isCell 23 = .ok (.iconst 1, 1) := by decide +kernel
theorem dX11_isCell_24 : decode cX11_isCell 24 = .ok (.iaload, 1) := by decide +kernel
theorem dX11_isCell_25 : decode cX11_isCell 25 = .ok (.if_icmp .ge 7, 3) := by decide +kernel
theorem dX11_isCell_28 : decode cX11_isCell 28 = .ok (.iconst 1, 1) := by decide +kernel
theorem dX11_isCell_29 : decode cX11_isCell 29 = .ok (.goto 4, 3) := by decide +kernel
theorem dX11_isCell_32 : decode cX11_isCell 32 = .ok (.iconst 0, 1) := by decide +kernel
theorem dX11_isCell_33 : decode cX11_isCell 33 = .ok (.ireturn, 1) := by decide +kernel
theorem dX11_isWall_0 : decode cX11_isWall 0 = .ok (.aload_n 0, 1) := by decide +kernel
theorem dX11_isWall_1 : decode cX11_isWall 1 = .ok (.getfield 16, 3) := by decide +kernel
theorem dX11_isWall_4 : decode cX11_isWall 4 = .ok (.iconst 0, 1) := by decide +kernel
theorem dX11_isWall_5 : decode cX11_isWall 5 = .ok (.aload_n 0, 1) := by decide +kernel
theorem dX11_isWall_6 : decode cX11_isWall 6 = .ok (.getfield 13, 3) := by decide +kernel
theorem dX11_isWall_9 : decode cX11_isWall 9 = .ok (.iconst 4, 1) := by decide +kernel
theorem dX11_isWall_10 : decode cX11_isWall 10 = .ok (.iaload, 1) := by decide +kernel
theorem dX11_isWall_11 : decode cX11_isWall 11 = .ok (.bipush 8, 2) := by decide +kernel
theorem dX11_isWall_13 : decode cX11_isWall 13 = .ok (.iload_n 1, 1) := by decide +kernel
theorem dX11_isWall_14 : decode cX11_isWall 14 = .ok (.imul, 1) := by decide +kernel
theorem dX11_isWall_15 : decode cX11_isWall 15 = .ok (.iload_n 2, 1) := by decide +kernel
theorem dX11_isWall_16 : decode cX11_isWall 16 = .ok (.iadd, 1) := by decide +kernel
theorem dX11_isWall_17 : decode cX11_isWall 17 = .ok (.invokestatic 229, 3) := by decide +kernel
theorem dX11_isWall_20 : decode cX11_isWall 20 = .ok (.iconst (-1), 1) := by decide +kernel
theorem dX11_isWall_21 : decode cX11_isWall 21 = .ok (.if_icmp .eq 7, 3) := by decide +kernel
theorem dX11_isWall_24 : decode cX11_isWall 24 = .ok (.iconst 1, 1) := by decide +kernel
theorem dX11_isWall_25 : decode cX11_isWall 25 = .ok (.goto 4, 3) := by decide +kernel
theorem dX11_isWall_28 : decode cX11_isWall 28 = .ok (.iconst 0, 1) := by decide +kernel
theorem dX11_isWall_29 : decode cX11_isWall 29 = .ok (.ireturn, 1) := by decide +kernel
theorem dX11_isLamp_0 : decode cX11_isLamp 0 = .ok (.iload_n 1, 1) := by decide +kernel
theorem dX11_isLamp_1 : decode cX11_isLamp 1 = .ok (.ifCond .lt 18, 3) := by decide +kernel
theorem dX11_isLamp_4 : decode cX11_isLamp 4 = .ok (.iload_n 1, 1) := by decide +kernel
theorem dX11_isLamp_5 : decode cX11_isLamp 5 = .ok (.aload_n 0, 1) := by decide +kernel
theorem dX11_isLamp_6 : decode cX11_isLamp 6 = .ok (.getfield 13, 3) := by decide +kernel
theorem dX11_isLamp_9 : decode cX11_isLamp 9 = .ok (.bipush 6, 2) := by decide +kernel
theorem dX11_isLamp_11 : decode cX11_isLamp 11 = .ok (.iaload, 1) := by decide +kernel
theorem dX11_isLamp_12 : decode cX11_isLamp 12 = .ok (.if_icmp .ge 7, 3) := by decide +kernel
theorem dX11_isLamp_15 : decode cX11_isLamp 15 = .ok (.iconst 1, 1) := by decide +kernel
theorem dX11_isLamp_16 : decode cX11_isLamp 16 = .ok (.goto 4, 3) := by decide +kernel
theorem dX11_isLamp_19 : decode cX11_isLamp 19 = .ok (.iconst 0, 1) := by decide +kernel
theorem dX11_isLamp_20 : decode cX11_isLamp 20 = .ok (.ireturn, 1) := by decide +kernel
theorem dX11_isDoing_0 : decode cX11_isDoing 0 = .ok (.iload_n 1, 1) := by decide +kernel
theorem dX11_isDoing_1 : decode cX11_isDoing 1 = .ok (.ifCond .lt 18, 3) := by decide +kernel
theorem dX11_isDoing_4 : decode cX11_isDoing 4 = .ok (.iload_n 1, 1) := by decide +kernel
theorem dX11_isDoing_5 : decode cX11_isDoing 5 = .ok (.aload_n 0, 1) := by decide +kernel
theorem dX11_isDoing_6 : decode cX11_isDoing 6 = .ok (.getfield 13, 3) := by decide +kernel
theorem dX11_isDoing_9 : decode cX11_isDoing 9 = .ok (.bipush 8, 2) := by decide +kernel
theorem dX11_isDoing_11 : decode cX11_isDoing 11 = .ok (.iaload, 1) := by decide +kernel
theorem dX11_isDoing_12 : decode cX11_isDoing 12 = .ok (.if_icmp .ge 7, 3) := by decide +kernel
theorem dX11_isDoing_15 : decode cX11_isDoing 15 = .ok (.iconst 1, 1) := by decide +kernel
theorem dX11_isDoing_16 : decode cX11_isDoing 16 = .ok (.goto 4, 3) := by decide +kernel
theorem dX11_isDoing_19 : decode cX11_isDoing 19 = .ok (.iconst 0, 1) := by decide +kernel
theorem dX11_isDoing_20 : decode cX11_isDoing 20 = .ok (.ireturn, 1) := by decide +kernel
theorem dX11_isMan_0 : decode cX11_isMan 0 = .ok (.iload_n 1, 1) := by decide +kernel
theorem dX11_isMan_1 : decode cX11_isMan 1 = .ok (.ifCond .lt 18, 3) := by decide +kernel
theorem dX11_isMan_4 : decode cX11_isMan 4 = .ok (.iload_n 1, 1) := by decide +kernel
theorem dX11_isMan_5 : decode cX11_isMan 5 = .ok (.aload_n 0, 1) := by decide +kernel
theorem dX11_isMan_6 : decode cX11_isMan 6 = .ok (.getfield 13, 3) := by decide +kernel
theorem dX11_isMan_9 : decode cX11_isMan 9 = .ok (.bipush 9, 2) := by decide +kernel
theorem dX11_isMan_11 : decode cX11_isMan 11 = .ok (.iaload, 1) := by decide +kernel
theorem dX11_isMan_12 : decode cX11_isMan 12 = .ok (.if_icmp .ge 7, 3) := by decide +kernel
theorem dX11_isMan_15 : decode cX11_isMan 15 = .ok (.iconst 1, 1) := by decide +kernel
theorem dX11_isMan_16 : decode cX11_isMan 16 = .ok (.goto 4, 3) := by decide +kernel
theorem dX11_isMan_19 : decode cX11_isMan 19 = .ok (.iconst 0, 1) := by decide +kernel
theorem dX11_isMan_20 : decode cX11_isMan 20 = .ok (.ireturn, 1) := by decide +kernel
theorem dX11_bitsOf_0 : decode cX11_bitsOf 0 = .ok (.iconst 0, 1) := by decide +kernel
theorem dX11_bitsOf_1 : decode cX11_bitsOf 1 = .ok (.istore_n 1, 1) := by decide +kernel
theorem dX11_bitsOf_2 : decode cX11_bitsOf 2 = .ok (.iconst 0, 1) := by decide +kernel
theorem dX11_bitsOf_3 : decode cX11_bitsOf 3 = .ok (.istore_n 2, 1) := by decide +kernel
theorem dX11_bitsOf_4 : decode cX11_bitsOf 4 = .ok (.iload_n 2, 1) := by decide +kernel
theorem dX11_bitsOf_5 : decode cX11_bitsOf 5 = .ok (.bipush 10, 2) := by decide +kernel
theorem dX11_bitsOf_7 : decode cX11_bitsOf 7 = .ok (.if_icmp .ge 17, 3) := by decide +kernel
theorem dX11_bitsOf_10 : decode cX11_bitsOf 10 = .ok (.iload_n 1, 1) := by decide +kernel
theorem dX11_bitsOf_11 : decode cX11_bitsOf 11 = .ok (.iload_n 0, 1) := by decide +kernel
theorem dX11_bitsOf_12 : decode cX11_bitsOf 12 = .ok (.iload_n 2, 1) := by decide +kernel
theorem dX11_bitsOf_13 : decode cX11_bitsOf 13 = .ok (.ishr, 1) := by decide +kernel
theorem dX11_bitsOf_14 : decode cX11_bitsOf 14 = .ok (.iconst 1, 1) := by decide +kernel
theorem dX11_bitsOf_15 : decode cX11_bitsOf 15 = .ok (.iand, 1) := by decide +kernel
theorem dX11_bitsOf_16 : decode cX11_bitsOf 16 = .ok (.iadd, 1) := by decide +kernel
theorem dX11_bitsOf_17 : decode cX11_bitsOf 17 = .ok (.istore_n 1, 1) := by decide +kernel
theorem dX11_bitsOf_18 : decode cX11_bitsOf 18 = .ok (.iinc 2 1, 3) := by decide +kernel
theorem dX11_bitsOf_21 : decode cX11_bitsOf 21 = .ok (.goto (-17), 3) := by decide +kernel
theorem dX11_bitsOf_24 : decode cX11_bitsOf 24 = .ok (.iload_n 1, 1) := by decide +kernel
theorem dX11_bitsOf_25 : decode cX11_bitsOf 25 = .ok (.ireturn, 1) := by decide +kernel
theorem dX11_rowBy_0 : decode cX11_rowBy 0 = .ok (.iload_n 0, 1) := by decide +kernel
theorem dX11_rowBy_1 : decode cX11_rowBy 1 = .ok (.ifCond .ne 7, 3) := by decide +kernel
theorem dX11_rowBy_4 : decode cX11_rowBy 4 = .ok (.iconst (-1), 1) := by decide +kernel
theorem dX11_rowBy_5 : decode cX11_rowBy 5 = .ok (.goto 13, 3) := by decide +kernel
theorem dX11_rowBy_8 : decode cX11_rowBy 8 = .ok (.iload_n 0, 1) := by decide +kernel
theorem dX11_rowBy_9 : decode cX11_rowBy 9 = .ok (.iconst 2, 1) := by decide +kernel
theorem dX11_rowBy_10 : decode cX11_rowBy 10 = .ok (.if_icmp .ne 7, 3) := by decide +kernel
theorem dX11_rowBy_13 : decode cX11_rowBy 13 = .ok (.iconst 1, 1) := by decide +kernel
theorem dX11_rowBy_14 : decode cX11_rowBy 14 = .ok (.goto 4, 3) := by decide +kernel
theorem dX11_rowBy_17 : decode cX11_rowBy 17 = .ok (.iconst 0, 1) := by decide +kernel
theorem dX11_rowBy_18 : decode cX11_rowBy 18 = .ok (.ireturn, 1) := by decide +kernel
theorem dX11_columnBy_0 : decode cX11_columnBy 0 = .ok (.iload_n 0, 1) := by decide +kernel
theorem dX11_columnBy_1 : decode cX11_columnBy 1 = .ok (.iconst 1, 1) := by decide +kernel
theorem dX11_columnBy_2 : decode cX11_columnBy 2 = .ok (.if_icmp .ne 7, 3) := by decide +kernel
theorem dX11_columnBy_5 : decode cX11_columnBy 5 = .ok (.iconst 1, 1) := by decide +kernel
theorem dX11_columnBy_6 : decode cX11_columnBy 6 = .ok (.goto 13, 3) := by decide +kernel
theorem dX11_columnBy_9 : decode cX11_columnBy 9 = .ok (.iload_n 0, 1) := by decide +kernel
theorem dX11_columnBy_10 : decode cX11_columnBy 10 = .ok (.iconst 3, 1) := by decide +kernel
theorem dX11_columnBy_11 : decode cX11_columnBy 11 = .ok (.if_icmp .ne 7, 3) := by decide +kernel
theorem dX11_columnBy_14 : decode cX11_columnBy 14 = .ok (.iconst (-1), 1) := by decide +kernel
theorem dX11_columnBy_15 : decode cX11_columnBy 15 = .ok (.goto 4, 3) := by decide +kernel
theorem dX11_columnBy_18 : decode cX11_columnBy 18 = .ok (.iconst 0, 1) := by decide +kernel
theorem dX11_columnBy_19 : decode cX11_columnBy 19 = .ok (.ireturn, 1) := by decide +kernel
theorem dX11_calls_0 : decode cX11_calls 0 = .ok (.aload_n 0, 1) := by decide +kernel
theorem dX11_calls_1 : decode cX11_calls 1 = .ok (.getfield 86, 3) := by decide +kernel
theorem dX11_calls_4 : decode cX11_calls 4 = .ok (.iconst 0, 1) := by decide +kernel
theorem dX11_calls_5 : decode cX11_calls 5 = .ok (.iload_n 2, 1) := by decide +kernel
theorem dX11_calls_6 : decode cX11_calls 6 = .ok (.i2l, 1) := by decide +kernel
theorem dX11_calls_7 : decode cX11_calls 7 = .ok (.lastore, 1) := by decide +kernel
theorem dX11_calls_8 : decode cX11_calls 8 = .ok (.aload_n 0, 1) := by decide +kernel
theorem dX11_calls_9 : decode cX11_calls 9 = .ok (.getfield 86, 3) := by decide +kernel
theorem dX11_calls_12 : decode cX11_calls 12 = .ok (.iconst 1, 1) := by decide +kernel
theorem dX11_calls_13 : decode cX11_calls 13 = .ok (.iload_n 3, 1) := by decide +kernel
theorem dX11_calls_14 : decode cX11_calls 14 = .ok (.i2l, 1) := by decide +kernel
theorem dX11_calls_15 : decode cX11_calls 15 = .ok (.lastore, 1) := by decide +kernel
theorem dX11_calls_16 : decode cX11_calls 16 = .ok (.aload_n 0, 1) := by decide +kernel
theorem dX11_calls_17 : decode cX11_calls 17 = .ok (.getfield 86, 3) := by decide +kernel
theorem dX11_calls_20 : decode cX11_calls 20 = .ok (.iconst 2, 1) := by decide +kernel
theorem dX11_calls_21 : decode cX11_calls 21 = .ok (.iload 4, 2) := by decide +kernel
theorem dX11_calls_23 : decode cX11_calls 23 = .ok (.i2l, 1) := by decide +kernel
theorem dX11_calls_24 : decode cX11_calls 24 = .ok (.lastore, 1) := by decide +kernel
theorem dX11_calls_25 : decode cX11_calls 25 = .ok (.aload_n 0, 1) := by decide +kernel
theorem dX11_calls_26 : decode cX11_calls 26 = .ok (.getfield 86, 3) := by decide +kernel
theorem dX11_calls_29 : decode cX11_calls 29 = .ok (.iconst 3, 1) := by decide +kernel
theorem dX11_calls_30 : decode cX11_calls 30 = .ok (.aload_n 0, 1) := by decide +kernel
theorem dX11_calls_31 : decode cX11_calls 31 = .ok (.getfield 117, 3) := by decide +kernel
theorem dX11_calls_34 : decode cX11_calls 34 = .ok (.iload_n 1, 1) := by decide +kernel
theorem dX11_calls_35 : decode cX11_calls 35 = .ok (.iaload, 1) := by decide +kernel
theorem dX11_calls_36 : decode cX11_calls 36 = .ok (.invokestatic 361, 3) := by decide +kernel
theorem dX11_calls_39 : decode cX11_calls 39 = .ok (.i2l, 1) := by decide +kernel
theorem dX11_calls_40 : decode cX11_calls 40 = .ok (.lastore, 1) := by decide +kernel
theorem dX11_calls_41 : decode cX11_calls 41 = .ok (.aload_n 0, 1) := by decide +kernel
theorem dX11_calls_42 : decode cX11_calls 42 = .ok (.getfield 86, 3) := by decide +kernel
theorem dX11_calls_45 : decode cX11_calls 45 = .ok (.iconst 4, 1) := by decide +kernel
theorem dX11_calls_46 : decode cX11_calls 46 = .ok (.aload_n 0, 1) := by decide +kernel
theorem dX11_calls_47 : decode cX11_calls 47 = .ok (.getfield 108, 3) := by decide +kernel
theorem dX11_calls_50 : decode cX11_calls 50 = .ok (.iload_n 1, 1) := by decide +kernel
theorem dX11_calls_51 : decode cX11_calls 51 = .ok (.iaload, 1) := by decide +kernel
theorem dX11_calls_52 : decode cX11_calls 52 = .ok (.i2l, 1) := by decide +kernel
theorem dX11_calls_53 : decode cX11_calls 53 = .ok (.lastore, 1) := by decide +kernel
theorem dX11_calls_54 : decode cX11_calls 54 = .ok (.aload_n 0, 1) := by decide +kernel
theorem dX11_calls_55 : decode cX11_calls 55 = .ok (.getfield 86, 3) := by decide +kernel
theorem dX11_calls_58 : decode cX11_calls 58 = .ok (.iconst 5, 1) := by decide +kernel
theorem dX11_calls_59 : decode cX11_calls 59 = .ok (.aload_n 0, 1) := by decide +kernel
theorem dX11_calls_60 : decode cX11_calls 60 = .ok (.getfield 114, 3) := by decide +kernel
theorem dX11_calls_63 : decode cX11_calls 63 = .ok (.iload_n 1, 1) := by decide +kernel
theorem dX11_calls_64 : decode cX11_calls 64 = .ok (.iaload, 1) := by decide +kernel
theorem dX11_calls_65 : decode cX11_calls 65 = .ok (.invokestatic 361, 3) := by decide +kernel
theorem dX11_calls_68 : decode cX11_calls 68 = .ok (.i2l, 1) := by decide +kernel
theorem dX11_calls_69 : decode cX11_calls 69 = .ok (.lastore, 1) := by decide +kernel
theorem dX11_calls_70 : decode cX11_calls 70 = .ok (.aload_n 0, 1) := by decide +kernel
theorem dX11_calls_71 : decode cX11_calls 71 = .ok (.getfield 86, 3) := by decide +kernel
theorem dX11_calls_74 : decode cX11_calls 74 = .ok (.bipush 6, 2) := by decide +kernel
theorem dX11_calls_76 : decode cX11_calls 76 = .ok (.iload 5, 2) := by decide +kernel
theorem dX11_calls_78 : decode cX11_calls 78 = .ok (.i2l, 1) := by decide +kernel
theorem dX11_calls_79 : decode cX11_calls 79 = .ok (.lastore, 1) := by decide +kernel
theorem dX11_calls_80 : decode cX11_calls 80 = .ok (.return_, 1) := by decide +kernel
theorem dX11_within_0 : decode cX11_within 0 = .ok (.aload_n 0, 1) := by decide +kernel
theorem dX11_within_1 : decode cX11_within 1 = .ok (.iload_n 1, 1) := by decide +kernel
theorem dX11_within_2 : decode cX11_within 2 = .ok (.invokevirtual 364, 3) := by decide +kernel
theorem dX11_within_5 : decode cX11_within 5 = .ok (.ifCond .eq 11, 3) := by decide +kernel
theorem dX11_within_8 : decode cX11_within 8 = .ok (.aload_n 0, 1) := by decide +kernel
theorem dX11_within_9 : decode cX11_within 9 = .ok (.iload_n 1, 1) := by decide +kernel
theorem dX11_within_10 : decode cX11_within 10 = .ok (.invokevirtual 367, 3) := by decide +kernel
theorem dX11_within_13 : decode cX11_within 13 = .ok (.ifCond .ne 5, 3) := by decide +kernel
theorem dX11_within_16 : decode cX11_within 16 = .ok (.iload_n 3, 1) := by decide +kernel
theorem dX11_within_17 : decode cX11_within 17 = .ok (.ireturn, 1) := by decide +kernel
theorem dX11_within_18 : decode cX11_within 18 = .ok (.lconst 0, 1) := by decide +kernel
theorem dX11_within_19 : decode cX11_within 19 = .ok (.iload_n 2, 1) := by decide +kernel
theorem dX11_within_20 : decode cX11_within 20 = .ok (.i2l, 1) := by decide +kernel
theorem dX11_within_21 : decode cX11_within 21 = .ok (.aload_n 0, 1) := by decide +kernel
theorem dX11_within_22 : decode cX11_within 22 = .ok (.getfield 90, 3) := by decide +kernel
theorem dX11_within_25 : decode cX11_within 25 = .ok (.iconst 0, 1) := by decide +kernel
theorem dX11_within_26 : decode cX11_within 26 = .ok (.laload, 1) := by decide +kernel
theorem dX11_within_27 : decode cX11_within 27 = .ok (.invokestatic 370, 3) := by decide +kernel
theorem dX11_within_30 : decode cX11_within 30 = .ok (.invokestatic 374, 3) := by decide +kernel
theorem dX11_within_33 : decode cX11_within 33 = .ok (.l2i, 1) := by decide +kernel
theorem dX11_within_34 : decode cX11_within 34 = .ok (.ireturn, 1) := by decide +kernel
theorem dX11_sunAt_0 : decode cX11_sunAt 0 = .ok (.iconst (-1), 1) := by decide +kernel
theorem dX11_sunAt_1 : decode cX11_sunAt 1 = .ok (.istore_n 2, 1) := by decide +kernel
theorem dX11_sunAt_2 : decode cX11_sunAt 2 = .ok (.iconst (-1), 1) := by decide +kernel
theorem dX11_sunAt_3 : decode cX11_sunAt 3 = .ok (.istore_n 3, 1) := by decide +kernel
theorem dX11_sunAt_4 : decode cX11_sunAt 4 = .ok (.iconst 0, 1) := by decide +kernel
theorem dX11_sunAt_5 : decode cX11_sunAt 5 = .ok (.istore 4, 2) := by decide +kernel
theorem dX11_sunAt_7 : decode cX11_sunAt 7 = .ok (.iload 4, 2) := by decide +kernel
theorem dX11_sunAt_9 : decode cX11_sunAt 9 = .ok (.aload_n 0, 1) := by decide +kernel
theorem dX11_sunAt_10 : decode cX11_sunAt 10 = .ok (.getfield 13, 3) := by decide +kernel
theorem dX11_sunAt_13 : decode cX11_sunAt 13 = .ok (.iconst 5, 1) := by decide +kernel
theorem dX11_sunAt_14 : decode cX11_sunAt 14 = .ok (.iaload, 1) := by decide +kernel
theorem dX11_sunAt_15 : decode cX11_sunAt 15 = .ok (.if_icmp .ge 68, 3) := by decide +kernel
theorem dX11_sunAt_18 : decode cX11_sunAt 18 = .ok (.iload_n 3, 1) := by decide +kernel
theorem dX11_sunAt_19 : decode cX11_sunAt 19 = .ok (.iconst (-1), 1) := by decide +kernel
theorem dX11_sunAt_20 : decode cX11_sunAt 20 = .ok (.if_icmp .eq 19, 3) := by decide +kernel
theorem dX11_sunAt_23 : decode cX11_sunAt 23 = .ok (.aload_n 0, 1) := by decide +kernel
theorem dX11_sunAt_24 : decode cX11_sunAt 24 = .ok (.getfield 19, 3) := by decide +kernel
theorem dX11_sunAt_27 : decode cX11_sunAt 27 = .ok (.iload 4, 2) := by decide +kernel
theorem dX11_sunAt_29 : decode cX11_sunAt 29 = .ok (.iaload, 1) := by decide +kernel
theorem dX11_sunAt_30 : decode cX11_sunAt 30 = .ok (.aload_n 0, 1) := by decide +kernel
theorem dX11_sunAt_31 : decode cX11_sunAt 31 = .ok (.getfield 19, 3) := by decide +kernel
theorem dX11_sunAt_34 : decode cX11_sunAt 34 = .ok (.iload_n 3, 1) := by decide +kernel
theorem dX11_sunAt_35 : decode cX11_sunAt 35 = .ok (.iaload, 1) := by decide +kernel
theorem dX11_sunAt_36 : decode cX11_sunAt 36 = .ok (.if_icmp .le 6, 3) := by decide +kernel
theorem dX11_sunAt_39 : decode cX11_sunAt 39 = .ok (.iload 4, 2) := by decide +kernel
theorem dX11_sunAt_41 : decode cX11_sunAt 41 = .ok (.istore_n 3, 1) := by decide +kernel
theorem dX11_sunAt_42 : decode cX11_sunAt 42 = .ok (.aload_n 0, 1) := by decide +kernel
theorem dX11_sunAt_43 : decode cX11_sunAt 43 = .ok (.getfield 19, 3) := by decide +kernel
theorem dX11_sunAt_46 : decode cX11_sunAt 46 = .ok (.iload 4, 2) := by decide +kernel
theorem dX11_sunAt_48 : decode cX11_sunAt 48 = .ok (.iaload, 1) := by decide +kernel
theorem dX11_sunAt_49 : decode cX11_sunAt 49 = .ok (.iload_n 1, 1) := by decide +kernel
theorem dX11_sunAt_50 : decode cX11_sunAt 50 = .ok (.if_icmp .gt 27, 3) := by decide +kernel
theorem dX11_sunAt_53 : decode cX11_sunAt 53 = .ok (.iload_n 2, 1) := by decide +kernel
theorem dX11_sunAt_54 : decode cX11_sunAt 54 = .ok (.iconst (-1), 1) := by decide +kernel
theorem dX11_sunAt_55 : decode cX11_sunAt 55 = .ok (.if_icmp .eq 19, 3) := by decide +kernel
theorem dX11_sunAt_58 : decode cX11_sunAt 58 = .ok (.aload_n 0, 1) := by decide +kernel
theorem dX11_sunAt_59 : decode cX11_sunAt 59 = .ok (.getfield 19, 3) := by decide +kernel
theorem dX11_sunAt_62 : decode cX11_sunAt 62 = .ok (.iload 4, 2) := by decide +kernel
theorem dX11_sunAt_64 : decode cX11_sunAt 64 = .ok (.iaload, 1) := by decide +kernel
theorem dX11_sunAt_65 : decode cX11_sunAt 65 = .ok (.aload_n 0, 1) := by decide +kernel
theorem dX11_sunAt_66 : decode cX11_sunAt 66 = .ok (.getfield 19, 3) := by decide +kernel
theorem dX11_sunAt_69 : decode cX11_sunAt 69 = .ok (.iload_n 2, 1) := by decide +kernel
theorem dX11_sunAt_70 : decode cX11_sunAt 70 = .ok (.iaload, 1) := by decide +kernel
theorem dX11_sunAt_71 : decode cX11_sunAt 71 = .ok (.if_icmp .le 6, 3) := by decide +kernel
theorem dX11_sunAt_74 : decode cX11_sunAt 74 = .ok (.iload 4, 2) := by decide +kernel
theorem dX11_sunAt_76 : decode cX11_sunAt 76 = .ok (.istore_n 2, 1) := by decide +kernel
theorem dX11_sunAt_77 : decode cX11_sunAt 77 = .ok (.iinc 4 1, 3) := by decide +kernel
theorem dX11_sunAt_80 : decode cX11_sunAt 80 = .ok (.goto (-73), 3) := by decide +kernel
theorem dX11_sunAt_83 : decode cX11_sunAt 83 = .ok (.iload_n 2, 1) := by decide +kernel
theorem dX11_sunAt_84 : decode cX11_sunAt 84 = .ok (.iconst (-1), 1) := by decide +kernel
theorem dX11_sunAt_85 : decode cX11_sunAt 85 = .ok (.if_icmp .ne 7, 3) := by decide +kernel
theorem dX11_sunAt_88 : decode cX11_sunAt 88 = .ok (.iload_n 3, 1) := by decide +kernel
theorem dX11_sunAt_89 : decode cX11_sunAt 89 = .ok (.goto 4, 3) := by decide +kernel
theorem dX11_sunAt_92 : decode cX11_sunAt 92 = .ok (.iload_n 2, 1) := by decide +kernel
theorem dX11_sunAt_93 : decode cX11_sunAt 93 = .ok (.ireturn, 1) := by decide +kernel
theorem dX11_lampAt_0 : decode cX11_lampAt 0 = .ok (.iconst (-1), 1) := by decide +kernel
theorem dX11_lampAt_1 : decode cX11_lampAt 1 = .ok (.istore_n 2, 1) := by decide +kernel
theorem dX11_lampAt_2 : decode cX11_lampAt 2 = .ok (.iconst 0, 1) := by decide +kernel
theorem dX11_lampAt_3 : decode cX11_lampAt 3 = .ok (.istore_n 3, 1) := by decide +kernel
theorem dX11_lampAt_4 : decode cX11_lampAt 4 = .ok (.iconst 0, 1) := by decide +kernel
theorem dX11_lampAt_5 : decode cX11_lampAt 5 = .ok (.istore 4, 2) := by decide +kernel
theorem dX11_lampAt_7 : decode cX11_lampAt 7 = .ok (.iload 4, 2) := by decide +kernel
theorem dX11_lampAt_9 : decode cX11_lampAt 9 = .ok (.aload_n 0, 1) := by decide +kernel
theorem dX11_lampAt_10 : decode cX11_lampAt 10 = .ok (.getfield 13, 3) := by decide +kernel
theorem dX11_lampAt_13 : decode cX11_lampAt 13 = .ok (.bipush 6, 2) := by decide +kernel
theorem dX11_lampAt_15 : decode cX11_lampAt 15 = .ok (.iaload, 1) := by decide +kernel
theorem dX11_lampAt_16 : decode cX11_lampAt 16 = .ok (.if_icmp .ge 92, 3) := by decide +kernel
theorem dX11_lampAt_19 : decode cX11_lampAt 19 = .ok (.aload_n 0, 1) := by decide +kernel
theorem dX11_lampAt_20 : decode cX11_lampAt 20 = .ok (.getfield 102, 3) := by decide +kernel
theorem dX11_lampAt_23 : decode cX11_lampAt 23 = .ok (.iload_n 1, 1) := by decide +kernel
theorem dX11_lampAt_24 : decode cX11_lampAt 24 = .ok (.iaload, 1) := by decide +kernel
theorem dX11_lampAt_25 : decode cX11_lampAt 25 = .ok (.aload_n 0, 1) := by decide +kernel
theorem dX11_lampAt_26 : decode cX11_lampAt 26 = .ok (.getfield 31, 3) := by decide +kernel
theorem dX11_lampAt_29 : decode cX11_lampAt 29 = .ok (.iload 4, 2) := by decide +kernel
theorem dX11_lampAt_31 : decode cX11_lampAt 31 = .ok (.iaload, 1) := by decide +kernel
theorem dX11_lampAt_32 : decode cX11_lampAt 32 = .ok (.isub, 1) := by decide +kernel
theorem dX11_lampAt_33 : decode cX11_lampAt 33 = .ok (.invokestatic 377, 3) := by decide +kernel
theorem dX11_lampAt_36 : decode cX11_lampAt 36 = .ok (.aload_n 0, 1) := by decide +kernel
theorem dX11_lampAt_37 : decode cX11_lampAt 37 = .ok (.getfield 105, 3) := by decide +kernel
theorem dX11_lampAt_40 : decode cX11_lampAt 40 = .ok (.iload_n 1, 1) := by decide +kernel
theorem dX11_lampAt_41 : decode cX11_lampAt 41 = .ok (.iaload, 1) := by decide +kernel
theorem dX11_lampAt_42 : decode cX11_lampAt 42 = .ok (.aload_n 0, 1) := by decide +kernel
theorem dX11_lampAt_43 : decode cX11_lampAt 43 = .ok (.getfield 34, 3) := by decide +kernel
theorem dX11_lampAt_46 : decode cX11_lampAt 46 = .ok (.iload 4, 2) := by decide +kernel
theorem dX11_lampAt_48 : decode cX11_lampAt 48 = .ok (.iaload, 1) := by decide +kernel
theorem dX11_lampAt_49 : decode cX11_lampAt 49 = .ok (.isub, 1) := by decide +kernel
theorem dX11_lampAt_50 : decode cX11_lampAt 50 = .ok (.invokestatic 377, 3) := by decide +kernel
theorem dX11_lampAt_53 : decode cX11_lampAt 53 = .ok (.iadd, 1) := by decide +kernel
theorem dX11_lampAt_54 : decode cX11_lampAt 54 = .ok (.istore 5, 2) := by decide +kernel
theorem dX11_lampAt_56 : decode cX11_lampAt 56 = .ok (.aload_n 0, 1) := by decide +kernel
theorem dX11_lampAt_57 : decode cX11_lampAt 57 = .ok (.getfield 114, 3) := by decide +kernel
theorem dX11_lampAt_60 : decode cX11_lampAt 60 = .ok (.iload_n 1, 1) := by decide +kernel
theorem dX11_lampAt_61 : decode cX11_lampAt 61 = .ok (.iaload, 1) := by decide +kernel
theorem dX11_lampAt_62 : decode cX11_lampAt 62 = .ok (.iload 4, 2) := by decide +kernel
theorem dX11_lampAt_64 : decode cX11_lampAt 64 = .ok (.ishr, 1) := by decide +kernel
theorem dX11_lampAt_65 : decode cX11_lampAt 65 = .ok (.iconst 1, 1) := by decide +kernel
theorem dX11_lampAt_66 : decode cX11_lampAt 66 = .ok (.iand, 1) := by decide +kernel
theorem dX11_lampAt_67 : decode cX11_lampAt 67 = .ok (.ifCond .eq 35, 3) := by decide +kernel
theorem dX11_lampAt_70 : decode cX11_lampAt 70 = .ok (.iload 5, 2) := by decide +kernel
theorem dX11_lampAt_72 : decode cX11_lampAt 72 = .ok (.aload_n 0, 1) := by decide +kernel
theorem dX11_lampAt_73 : decode cX11_lampAt 73 = .ok (.getfield 37, 3) := by decide +kernel
theorem dX11_lampAt_76 : decode cX11_lampAt 76 = .ok (.iload 4, 2) := by decide +kernel
theorem dX11_lampAt_78 : decode cX11_lampAt 78 = .ok (.iaload, 1) := by decide +kernel
theorem dX11_lampAt_79 : decode cX11_lampAt 79 = .ok (.if_icmp .gt 23, 3) := by decide +kernel
theorem dX11_lampAt_82 : decode cX11_lampAt 82 = .ok (.iload_n 2, 1) := by decide +kernel
theorem dX11_lampAt_83 : decode cX11_lampAt 83 = .ok (.iconst (-1), 1) := by decide +kernel
theorem dX11_lampAt_84 : decode cX11_lampAt 84 = .ok (.if_icmp .eq 12, 3) := by decide +kernel
theorem dX11_lampAt_87 : decode cX11_lampAt 87 = .ok (.iload 5, 2) := by decide +kernel
theorem dX11_lampAt_89 : decode cX11_lampAt 89 = .ok (.iload_n 3, 1) := by decide +kernel
theorem dX11_lampAt_90 : decode cX11_lampAt 90 = .ok (.if_icmp .lt 6, 3) := by decide +kernel
theorem dX11_lampAt_93 : decode cX11_lampAt 93 = .ok (.goto 9, 3) := by decide +kernel
theorem dX11_lampAt_96 : decode cX11_lampAt 96 = .ok (.iload 4, 2) := by decide +kernel
theorem dX11_lampAt_98 : decode cX11_lampAt 98 = .ok (.istore_n 2, 1) := by decide +kernel
theorem dX11_lampAt_99 : decode cX11_lampAt 99 = .ok (.iload 5, 2) := by decide +kernel
theorem dX11_lampAt_101 : decode cX11_lampAt 101 = .ok (.istore_n 3, 1) := by decide +kernel
theorem dX11_lampAt_102 : decode cX11_lampAt 102 = .ok (.iinc 4 1, 3) := by decide +kernel
theorem dX11_lampAt_105 : decode cX11_lampAt 105 = .ok (.goto (-98), 3) := by decide +kernel
theorem dX11_lampAt_108 : decode cX11_lampAt 108 = .ok (.iload_n 2, 1) := by decide +kernel
theorem dX11_lampAt_109 : decode cX11_lampAt 109 = .ok (.ireturn, 1) := by decide +kernel
theorem dX11_fallsBy_0 : decode cX11_fallsBy 0 = .ok (.aload_n 0, 1) := by decide +kernel
theorem dX11_fallsBy_1 : decode cX11_fallsBy 1 = .ok (.iload_n 1, 1) := by decide +kernel
theorem dX11_fallsBy_2 : decode cX11_fallsBy 2 = .ok (.iload_n 3, 1) := by decide +kernel
theorem dX11_fallsBy_3 : decode cX11_fallsBy 3 = .ok (.iconst 0, 1) := by decide +kernel
theorem dX11_fallsBy_4 : decode cX11_fallsBy 4 = .ok (.iconst 0, 1) := by decide +kernel
theorem dX11_fallsBy_5 : decode cX11_fallsBy 5 = .ok (.iload 4, 2) := by decide +kernel
theorem dX11_fallsBy_7 : decode cX11_fallsBy 7 = .ok (.invokevirtual 379, 3) := by decide +kernel
theorem dX11_fallsBy_10 : decode cX11_fallsBy 10 = .ok (.aload_n 0, 1) := by decide +kernel
theorem dX11_fallsBy_11 : decode cX11_fallsBy 11 = .ok (.iconst 0, 1) := by decide +kernel
theorem dX11_fallsBy_12 : decode cX11_fallsBy 12 = .ok (.bipush 7, 2) := by decide +kernel
theorem dX11_fallsBy_14 : decode cX11_fallsBy 14 = .ok (.iload_n 3, 1) := by decide +kernel
theorem dX11_fallsBy_15 : decode cX11_fallsBy 15 = .ok (.invokevirtual 383, 3) := by decide +kernel
theorem dX11_fallsBy_18 : decode cX11_fallsBy 18 = .ok (.istore 5, 2) := by decide +kernel
theorem dX11_fallsBy_20 : decode cX11_fallsBy 20 = .ok (.iconst 0, 1) := by decide +kernel
theorem dX11_fallsBy_21 : decode cX11_fallsBy 21 = .ok (.istore 6, 2) := by decide +kernel
theorem dX11_fallsBy_23 : decode cX11_fallsBy 23 = .ok (.iload 6, 2) := by decide +kernel
theorem dX11_fallsBy_25 : decode cX11_fallsBy 25 = .ok (.iload 5, 2) := by decide +kernel
theorem dX11_fallsBy_27 : decode cX11_fallsBy 27 = .ok (.if_icmp .ge 63, 3) := by decide +kernel
theorem dX11_fallsBy_30 : decode cX11_fallsBy 30 = .ok (.aload_n 0, 1) := by decide +kernel
theorem dX11_fallsBy_31 : decode cX11_fallsBy 31 = .ok (.aload_n 0, 1) := by decide +kernel
theorem dX11_fallsBy_32 : decode cX11_fallsBy 32 = .ok (.getfield 387, 3) := by decide +kernel
theorem dX11_fallsBy_35 : decode cX11_fallsBy 35 = .ok (.iload_n 2, 1) := by decide +kernel
theorem dX11_fallsBy_36 : decode cX11_fallsBy 36 = .ok (.invokestatic 390, 3) := by decide +kernel
theorem dX11_fallsBy_39 : decode cX11_fallsBy 39 = .ok (.iadd, 1) := by decide +kernel
theorem dX11_fallsBy_40 : decode cX11_fallsBy 40 = .ok (.aload_n 0, 1) := by decide +kernel
theorem dX11_fallsBy_41 : decode cX11_fallsBy 41 = .ok (.getfield 393, 3) := by decide +kernel
theorem dX11_fallsBy_44 : decode cX11_fallsBy 44 = .ok (.iload_n 2, 1) := by decide +kernel
theorem dX11_fallsBy_45 : decode cX11_fallsBy 45 = .ok (.invokestatic 396, 3) := by decide +kernel
theorem dX11_fallsBy_48 : decode cX11_fallsBy 48 = .ok (.iadd, 1) := by decide +kernel
theorem dX11_fallsBy_49 : decode cX11_fallsBy 49 = .ok (.invokevirtual 399, 3) := by decide +kernel
theorem dX11_fallsBy_52 : decode cX11_fallsBy 52 = .ok (.ifCond .ne 6, 3) := by decide +kernel
theorem dX11_fallsBy_55 : decode cX11_fallsBy 55 = .ok (.goto 29, 3) := by decide +kernel
theorem dX11_fallsBy_58 : decode cX11_fallsBy 58 = .ok (.aload_n 0, 1) := by decide +kernel
theorem dX11_fallsBy_59 : decode cX11_fallsBy 59 = .ok (.dup, 1) := by decide +kernel
theorem dX11_fallsBy_60 : decode cX11_fallsBy 60 = .ok (.getfield 387, 3) := by decide +kernel
theorem dX11_fallsBy_63 : decode cX11_fallsBy 63 = .ok (.iload_n 2, 1) := by decide +kernel
theorem dX11_fallsBy_64 : decode cX11_fallsBy 64 = .ok (.invokestatic 390, 3) := by decide +kernel
theorem dX11_fallsBy_67 : decode cX11_fallsBy 67 = .ok (.iadd, 1) := by decide +kernel
theorem dX11_fallsBy_68 : decode cX11_fallsBy 68 = .ok (.putfield 387, 3) := by decide +kernel
theorem dX11_fallsBy_71 : decode cX11_fallsBy 71 = .ok (.aload_n 0, 1) := by decide +kernel
theorem dX11_fallsBy_72 : decode cX11_fallsBy 72 = .ok (.dup, 1) := by decide +kernel
theorem dX11_fallsBy_73 : decode cX11_fallsBy 73 = .ok (.getfield 393, 3) := by decide +kernel
theorem dX11_fallsBy_76 : decode cX11_fallsBy 76 = .ok (.iload_n 2, 1) := by decide +kernel
theorem dX11_fallsBy_77 : decode cX11_fallsBy 77 = .ok (.invokestatic 396, 3) := by decide +kernel
theorem dX11_fallsBy_80 : decode cX11_fallsBy 80 = .ok (.iadd, 1) := by decide +kernel
theorem dX11_fallsBy_81 : decode cX11_fallsBy 81 = .ok (.putfield 393, 3) := by decide +kernel
theorem dX11_fallsBy_84 : decode cX11_fallsBy 84 = .ok (.iinc 6 1, 3) := by decide +kernel
theorem dX11_fallsBy_87 : decode cX11_fallsBy 87 = .ok (.goto (-64), 3) := by decide +kernel
theorem dX11_fallsBy_90 : decode cX11_fallsBy 90 = .ok (.aload_n 0, 1) := by decide +kernel
theorem dX11_fallsBy_91 : decode cX11_fallsBy 91 = .ok (.aload_n 0, 1) := by decide +kernel
theorem dX11_fallsBy_92 : decode cX11_fallsBy 92 = .ok (.getfield 387, 3) := by decide +kernel
theorem dX11_fallsBy_95 : decode cX11_fallsBy 95 = .ok (.aload_n 0, 1) := by decide +kernel
theorem dX11_fallsBy_96 : decode cX11_fallsBy 96 = .ok (.getfield 102, 3) := by decide +kernel
theorem dX11_fallsBy_99 : decode cX11_fallsBy 99 = .ok (.iload_n 1, 1) := by decide +kernel
theorem dX11_fallsBy_100 : decode cX11_fallsBy 100 = .ok (.iaload, 1) := by decide +kernel
theorem dX11_fallsBy_101 : decode cX11_fallsBy 101 = .ok (.if_icmp .ne 20, 3) := by decide +kernel
theorem dX11_fallsBy_104 : decode cX11_fallsBy 104 = .ok (.aload_n 0, 1) := by decide +kernel
theorem dX11_fallsBy_105 : decode cX11_fallsBy 105 = .ok (.getfield 393, 3) := by decide +kernel
theorem dX11_fallsBy_108 : decode cX11_fallsBy 108 = .ok (.aload_n 0, 1) := by decide +kernel
theorem dX11_fallsBy_109 : decode cX11_fallsBy 109 = .ok (.getfield 105, 3) := by decide +kernel
theorem dX11_fallsBy_112 : decode cX11_fallsBy 112 = .ok (.iload_n 1, 1) := by decide +kernel
theorem dX11_fallsBy_113 : decode cX11_fallsBy 113 = .ok (.iaload, 1) := by decide +kernel
theorem dX11_fallsBy_114 : decode cX11_fallsBy 114 = .ok (.if_icmp .ne 7, 3) := by decide +kernel
theorem dX11_fallsBy_117 : decode cX11_fallsBy 117 = .ok (.iconst 1, 1) := by decide +kernel
theorem dX11_fallsBy_118 : decode cX11_fallsBy 118 = .ok (.goto 4, 3) := by decide +kernel
theorem dX11_fallsBy_121 : decode cX11_fallsBy 121 = .ok (.iconst 0, 1) := by decide +kernel
theorem dX11_fallsBy_122 : decode cX11_fallsBy 122 = .ok (.putfield 403, 3) := by decide +kernel
theorem dX11_fallsBy_125 : decode cX11_fallsBy 125 = .ok (.return_, 1) := by decide +kernel
theorem dX11_lightFar_0 : decode cX11_lightFar 0 = .ok (.aload_n 0, 1) := by decide +kernel
theorem dX11_lightFar_1 : decode cX11_lightFar 1 = .ok (.iconst (-1), 1) := by decide +kernel
theorem dX11_lightFar_2 : decode cX11_lightFar 2 = .ok (.putfield 406, 3) := by decide +kernel
theorem dX11_lightFar_5 : decode cX11_lightFar 5 = .ok (.iload_n 3, 1) := by decide +kernel
theorem dX11_lightFar_6 : decode cX11_lightFar 6 = .ok (.ifCond .ne 11, 3) := by decide +kernel
theorem dX11_lightFar_9 : decode cX11_lightFar 9 = .ok (.aload_n 0, 1) := by decide +kernel
theorem dX11_lightFar_10 : decode cX11_lightFar 10 = .ok (.getfield 409, 3) := by decide +kernel
theorem dX11_lightFar_13 : decode cX11_lightFar 13 = .ok (.iconst 5, 1) := by decide +kernel
theorem dX11_lightFar_14 : decode cX11_lightFar 14 = .ok (.if_icmp .ne 7, 3) := by decide +kernel
theorem dX11_lightFar_17 : decode cX11_lightFar 17 = .ok (.iconst (-1), 1) := by decide +kernel
theorem dX11_lightFar_18 : decode cX11_lightFar 18 = .ok (.goto 8, 3) := by decide +kernel
theorem dX11_lightFar_21 : decode cX11_lightFar 21 = .ok (.aload_n 0, 1) := by decide +kernel
theorem dX11_lightFar_22 : decode cX11_lightFar 22 = .ok (.iload_n 2, 1) := by decide +kernel
theorem dX11_lightFar_23 : decode cX11_lightFar 23 = .ok (.invokevirtual 412, 3) := by decide +kernel
theorem dX11_lightFar_26 : decode cX11_lightFar 26 = .ok (.istore 4, 2) := by decide +kernel
theorem dX11_lightFar_28 : decode cX11_lightFar 28 = .ok (.iload 4, 2) := by decide +kernel
theorem dX11_lightFar_30 : decode cX11_lightFar 30 = .ok (.iconst (-1), 1) := by decide +kernel
theorem dX11_lightFar_31 : decode cX11_lightFar 31 = .ok (.if_icmp .eq 32, 3) := by decide +kernel
theorem dX11_lightFar_34 : decode cX11_lightFar 34 = .ok (.aload_n 0, 1) := by decide +kernel
theorem dX11_lightFar_35 : decode cX11_lightFar 35 = .ok (.getfield 25, 3) := by decide +kernel
theorem dX11_lightFar_38 : decode cX11_lightFar 38 = .ok (.iload 4, 2) := by decide +kernel
theorem dX11_lightFar_40 : decode cX11_lightFar 40 = .ok (.iaload, 1) := by decide +kernel
theorem dX11_lightFar_41 : decode cX11_lightFar 41 = .ok (.ifCond .le 22, 3) := by decide +kernel
theorem dX11_lightFar_44 : decode cX11_lightFar 44 = .ok (.aload_n 0, 1) := by decide +kernel
theorem dX11_lightFar_45 : decode cX11_lightFar 45 = .ok (.aload_n 0, 1) := by decide +kernel
theorem dX11_lightFar_46 : decode cX11_lightFar 46 = .ok (.getfield 22, 3) := by decide +kernel
theorem dX11_lightFar_49 : decode cX11_lightFar 49 = .ok (.iload 4, 2) := by decide +kernel
theorem dX11_lightFar_51 : decode cX11_lightFar 51 = .ok (.iaload, 1) := by decide +kernel
theorem dX11_lightFar_52 : decode cX11_lightFar 52 = .ok (.putfield 406, 3) := by decide +kernel
theorem dX11_lightFar_55 : decode cX11_lightFar 55 = .ok (.aload_n 0, 1) := by decide +kernel
theorem dX11_lightFar_56 : decode cX11_lightFar 56 = .ok (.getfield 25, 3) := by decide +kernel
theorem dX11_lightFar_59 : decode cX11_lightFar 59 = .ok (.iload 4, 2) := by decide +kernel
theorem dX11_lightFar_61 : decode cX11_lightFar 61 = .ok (.iaload, 1) := by decide +kernel
theorem dX11_lightFar_62 : decode cX11_lightFar 62 = .ok (.ireturn, 1) := by decide +kernel
theorem dX11_lightFar_63 : decode cX11_lightFar 63 = .ok (.aload_n 0, 1) := by decide +kernel
theorem dX11_lightFar_64 : decode cX11_lightFar 64 = .ok (.iload_n 1, 1) := by decide +kernel
theorem dX11_lightFar_65 : decode cX11_lightFar 65 = .ok (.invokevirtual 415, 3) := by decide +kernel
theorem dX11_lightFar_68 : decode cX11_lightFar 68 = .ok (.istore 5, 2) := by decide +kernel
theorem dX11_lightFar_70 : decode cX11_lightFar 70 = .ok (.iload 5, 2) := by decide +kernel
theorem dX11_lightFar_72 : decode cX11_lightFar 72 = .ok (.iconst (-1), 1) := by decide +kernel
theorem dX11_lightFar_73 : decode cX11_lightFar 73 = .ok (.if_icmp .ne 5, 3) := by decide +kernel
theorem dX11_lightFar_76 : decode cX11_lightFar 76 = .ok (.iconst 0, 1) := by decide +kernel
theorem dX11_lightFar_77 : decode cX11_lightFar 77 = .ok (.ireturn, 1) := by decide +kernel
theorem dX11_lightFar_78 : decode cX11_lightFar 78 = .ok (.aload_n 0, 1) := by decide +kernel
theorem dX11_lightFar_79 : decode cX11_lightFar 79 = .ok (.getfield 102, 3) := by decide +kernel
theorem dX11_lightFar_82 : decode cX11_lightFar 82 = .ok (.iload_n 1, 1) := by decide +kernel
theorem dX11_lightFar_83 : decode cX11_lightFar 83 = .ok (.iaload, 1) := by decide +kernel
theorem dX11_lightFar_84 : decode cX11_lightFar 84 = .ok (.aload_n 0, 1) := by decide +kernel
theorem dX11_lightFar_85 : decode cX11_lightFar 85 = .ok (.getfield 31, 3) := by decide +kernel
theorem dX11_lightFar_88 : decode cX11_lightFar 88 = .ok (.iload 5, 2) := by decide +kernel
theorem dX11_lightFar_90 : decode cX11_lightFar 90 = .ok (.iaload, 1) := by decide +kernel
theorem dX11_lightFar_91 : decode cX11_lightFar 91 = .ok (.isub, 1) := by decide +kernel
theorem dX11_lightFar_92 : decode cX11_lightFar 92 = .ok (.istore 6, 2) := by decide +kernel
theorem dX11_lightFar_94 : decode cX11_lightFar 94 = .ok (.aload_n 0, 1) := by decide +kernel
theorem dX11_lightFar_95 : decode cX11_lightFar 95 = .ok (.getfield 105, 3) := by decide +kernel
theorem dX11_lightFar_98 : decode cX11_lightFar 98 = .ok (.iload_n 1, 1) := by decide +kernel
theorem dX11_lightFar_99 : decode cX11_lightFar 99 = .ok (.iaload, 1) := by decide +kernel
theorem dX11_lightFar_100 : decode cX11_lightFar 100 = .ok (.aload_n 0, 1) := by decide +kernel
theorem dX11_lightFar_101 : decode cX11_lightFar 101 = .ok (.getfield 34, 3) := by decide +kernel
theorem dX11_lightFar_104 : decode cX11_lightFar 104 = .ok (.iload 5, 2) := by decide +kernel
theorem dX11_lightFar_106 : decode cX11_lightFar 106 = .ok (.iaload, 1) := by decide +kernel
theorem dX11_lightFar_107 : decode cX11_lightFar 107 = .ok (.isub, 1) := by decide +kernel
theorem dX11_lightFar_108 : decode cX11_lightFar 108 = .ok (.istore 7, 2) := by decide +kernel
theorem dX11_lightFar_110 : decode cX11_lightFar 110 = .ok (.iload 6, 2) := by decide +kernel
theorem dX11_lightFar_112 : decode cX11_lightFar 112 = .ok (.ifCond .ne 10, 3) := by decide +kernel
theorem dX11_lightFar_115 : decode cX11_lightFar 115 = .ok (.iload 7, 2) := by decide +kernel
theorem dX11_lightFar_117 : decode cX11_lightFar 117 = .ok (.ifCond .ne 5, 3) := by decide +kernel
theorem dX11_lightFar_120 : decode cX11_lightFar 120 = .ok (.iconst 0, 1) := by decide +kernel
theorem dX11_lightFar_121 : decode cX11_lightFar 121 = .ok (.ireturn, 1) := by decide +kernel
theorem dX11_lightFar_122 : decode cX11_lightFar 122 = .ok (.iload 6, 2) := by decide +kernel
theorem dX11_lightFar_124 : decode cX11_lightFar 124 = .ok (.invokestatic 377, 3) := by decide +kernel
theorem dX11_lightFar_127 : decode cX11_lightFar 127 = .ok (.iload 7, 2) := by decide +kernel
theorem dX11_lightFar_129 : decode cX11_lightFar 129 = .ok (.invokestatic 377, 3) := by decide +kernel
theorem dX11_lightFar_132 : decode cX11_lightFar 132 = .ok (.if_icmp .lt 20, 3) := by decide +kernel
theorem dX11_lightFar_135 : decode cX11_lightFar 135 = .ok (.aload_n 0, 1) := by decide +kernel
theorem dX11_lightFar_136 : decode cX11_lightFar 136 = .ok (.iload 6, 2) := by decide +kernel
theorem dX11_lightFar_138 : decode cX11_lightFar 138 = .ok (.ifCond .ge 7, 3) := by decide +kernel
theorem dX11_lightFar_141 : decode cX11_lightFar 141 = .ok (.iconst 0, 1) := by decide +kernel
theorem dX11_lightFar_142 : decode cX11_lightFar 142 = .ok (.goto 4, 3) := by decide +kernel
theorem dX11_lightFar_145 : decode cX11_lightFar 145 = .ok (.iconst 2, 1) := by decide +kernel
theorem dX11_lightFar_146 : decode cX11_lightFar 146 = .ok (.putfield 406, 3) := by decide +kernel
theorem dX11_lightFar_149 : decode cX11_lightFar 149 = .ok (.goto 17, 3) := by decide +kernel
theorem dX11_lightFar_152 : decode cX11_lightFar 152 = .ok (.aload_n 0, 1) := by decide +kernel
theorem dX11_lightFar_153 : decode cX11_lightFar 153 = .ok (.iload 7, 2) := by decide +kernel
theorem dX11_lightFar_155 : decode cX11_lightFar 155 = .ok (.ifCond .le 7, 3) := by decide +kernel
theorem dX11_lightFar_158 : decode cX11_lightFar 158 = .ok (.iconst 1, 1) := by decide +kernel
theorem dX11_lightFar_159 : decode cX11_lightFar 159 = .ok (.goto 4, 3) := by decide +kernel
theorem dX11_lightFar_162 : decode cX11_lightFar 162 = .ok (.iconst 3, 1) := by decide +kernel
theorem dX11_lightFar_163 : decode cX11_lightFar 163 = .ok (.putfield 406, 3) := by decide +kernel
theorem dX11_lightFar_166 : decode cX11_lightFar 166 = .ok (.iload 6, 2) := by decide +kernel
theorem dX11_lightFar_168 : decode cX11_lightFar 168 = .ok (.invokestatic 377, 3) := by decide +kernel
theorem dX11_lightFar_171 : decode cX11_lightFar 171 = .ok (.iload 7, 2) := by decide +kernel
theorem dX11_lightFar_173 : decode cX11_lightFar 173 = .ok (.invokestatic 377, 3) := by decide +kernel
theorem dX11_lightFar_176 : decode cX11_lightFar 176 = .ok (.iadd, 1) := by decide +kernel
theorem dX11_lightFar_177 : decode cX11_lightFar 177 = .ok (.ireturn, 1) := by decide +kernel
theorem dX11_falls_0 : decode cX11_falls 0 = .ok (.aload_n 0, 1) := by decide +kernel
theorem dX11_falls_1 : decode cX11_falls 1 = .ok (.aload_n 0, 1) := by decide +kernel
theorem dX11_falls_2 : decode cX11_falls 2 = .ok (.getfield 102, 3) := by decide +kernel
theorem dX11_falls_5 : decode cX11_falls 5 = .ok (.iload_n 1, 1) := by decide +kernel
theorem dX11_falls_6 : decode cX11_falls 6 = .ok (.iaload, 1) := by decide +kernel
theorem dX11_falls_7 : decode cX11_falls 7 = .ok (.putfield 387, 3) := by decide +kernel
theorem dX11_falls_10 : decode cX11_falls 10 = .ok (.aload_n 0, 1) := by decide +kernel
theorem dX11_falls_11 : decode cX11_falls 11 = .ok (.aload_n 0, 1) := by decide +kernel
theorem dX11_falls_12 : decode cX11_falls 12 = .ok (.getfield 105, 3) := by decide +kernel
theorem dX11_falls_15 : decode cX11_falls 15 = .ok (.iload_n 1, 1) := by decide +kernel
theorem dX11_falls_16 : decode cX11_falls 16 = .ok (.iaload, 1) := by decide +kernel
theorem dX11_falls_17 : decode cX11_falls 17 = .ok (.putfield 393, 3) := by decide +kernel
theorem dX11_falls_20 : decode cX11_falls 20 = .ok (.aload_n 0, 1) := by decide +kernel
theorem dX11_falls_21 : decode cX11_falls 21 = .ok (.iconst 1, 1) := by decide +kernel
theorem dX11_falls_22 : decode cX11_falls 22 = .ok (.putfield 403, 3) := by decide +kernel
theorem dX11_falls_25 : decode cX11_falls 25 = .ok (.aload_n 0, 1) := by decide +kernel
theorem dX11_falls_26 : decode cX11_falls 26 = .ok (.iload_n 1, 1) := by decide +kernel
theorem dX11_falls_27 : decode cX11_falls 27 = .ok (.iload_n 2, 1) := by decide +kernel
theorem dX11_falls_28 : decode cX11_falls 28 = .ok (.iload_n 3, 1) := by decide +kernel
theorem dX11_falls_29 : decode cX11_falls 29 = .ok (.invokevirtual 418, 3) := by decide +kernel
theorem dX11_falls_32 : decode cX11_falls 32 = .ok (.istore 4, 2) := by decide +kernel
theorem dX11_falls_34 : decode cX11_falls 34 = .ok (.aload_n 0, 1) := by decide +kernel
theorem dX11_falls_35 : decode cX11_falls 35 = .ok (.getfield 406, 3) := by decide +kernel
theorem dX11_falls_38 : decode cX11_falls 38 = .ok (.iconst (-1), 1) := by decide +kernel
theorem dX11_falls_39 : decode cX11_falls 39 = .ok (.if_icmp .eq 15, 3) := by decide +kernel
theorem dX11_falls_42 : decode cX11_falls 42 = .ok (.aload_n 0, 1) := by decide +kernel
theorem dX11_falls_43 : decode cX11_falls 43 = .ok (.iload_n 1, 1) := by decide +kernel
theorem dX11_falls_44 : decode cX11_falls 44 = .ok (.aload_n 0, 1) := by decide +kernel
theorem dX11_falls_45 : decode cX11_falls 45 = .ok (.getfield 406, 3) := by decide +kernel
theorem dX11_falls_48 : decode cX11_falls 48 = .ok (.iload 4, 2) := by decide +kernel
theorem dX11_falls_50 : decode cX11_falls 50 = .ok (.iload_n 2, 1) := by decide +kernel
theorem dX11_falls_51 : decode cX11_falls 51 = .ok (.invokevirtual 422, 3) := by decide +kernel
theorem dX11_falls_54 : decode cX11_falls 54 = .ok (.return_, 1) := by decide +kernel
theorem dX11_isCloudy_0 : decode cX11_isCloudy 0 = .ok (.aload_n 0, 1) := by decide +kernel
theorem dX11_isCloudy_1 : decode cX11_isCloudy 1 = .ok (.getfield 13, 3) := by decide +kernel
theorem dX11_isCloudy_4 : decode cX11_isCloudy 4 = .ok (.iconst 5, 1) := by decide +kernel
theorem dX11_isCloudy_5 : decode cX11_isCloudy 5 = .ok (.iaload, 1) := by decide +kernel
theorem dX11_isCloudy_6 : decode cX11_isCloudy 6 = .ok (.ifCond .eq 11, 3) := by decide +kernel
theorem dX11_isCloudy_9 : decode cX11_isCloudy 9 = .ok (.aload_n 0, 1) := by decide +kernel
theorem dX11_isCloudy_10 : decode cX11_isCloudy 10 = .ok (.getfield 409, 3) := by decide +kernel
theorem dX11_isCloudy_13 : decode cX11_isCloudy 13 = .ok (.iconst 1, 1) := by decide +kernel
theorem dX11_isCloudy_14 : decode cX11_isCloudy 14 = .ok (.if_icmp .ne 5, 3) := by decide +kernel
theorem dX11_isCloudy_17 : decode cX11_isCloudy 17 = .ok (.iconst 0, 1) := by decide +kernel
theorem dX11_isCloudy_18 : decode cX11_isCloudy 18 = .ok (.ireturn, 1) := by decide +kernel
theorem dX11_isCloudy_19 : decode cX11_isCloudy 19 = .ok (.aload_n 0, 1) := by decide +kernel
theorem dX11_isCloudy_20 : decode cX11_isCloudy 20 = .ok (.getfield 13, 3) := by decide +kernel
theorem dX11_isCloudy_23 : decode cX11_isCloudy 23 = .ok (.bipush 10, 2) := by decide +kernel
theorem dX11_isCloudy_25 : decode cX11_isCloudy 25 = .ok (.iaload, 1) := by decide +kernel
theorem dX11_isCloudy_26 : decode cX11_isCloudy 26 = .ok (.istore_n 3, 1) := by decide +kernel
theorem dX11_isCloudy_27 : decode cX11_isCloudy 27 = .ok (.iload_n 2, 1) := by decide +kernel
theorem dX11_isCloudy_28 : decode cX11_isCloudy 28 = .ok (.ifCond .eq 13, 3) := by decide +kernel
theorem dX11_isCloudy_31 : decode cX11_isCloudy 31 = .ok (.iload_n 3, 1) := by decide +kernel
theorem dX11_isCloudy_32 : decode cX11_isCloudy 32 = .ok (.ifCond .eq 9, 3) := by decide +kernel
theorem dX11_isCloudy_35 : decode cX11_isCloudy 35 = .ok (.iload_n 3, 1) := by decide +kernel
theorem dX11_isCloudy_36 : decode cX11_isCloudy 36 = .ok (.bipush 100, 2) := by decide +kernel
theorem dX11_isCloudy_38 : decode cX11_isCloudy 38 = .ok (.if_icmp .ne 15, 3) := by decide +kernel
theorem dX11_isCloudy_41 : decode cX11_isCloudy 41 = .ok (.iload_n 3, 1) := by decide +kernel
theorem dX11_isCloudy_42 : decode cX11_isCloudy 42 = .ok (.bipush 50, 2) := by decide +kernel
theorem dX11_isCloudy_44 : decode cX11_isCloudy 44 = .ok (.if_icmp .lt 7, 3) := by decide +kernel
theorem dX11_isCloudy_47 : decode cX11_isCloudy 47 = .ok (.iconst 1, 1) := by decide +kernel
theorem dX11_isCloudy_48 : decode cX11_isCloudy 48 = .ok (.goto 4, 3) := by decide +kernel
theorem dX11_isCloudy_51 : decode cX11_isCloudy 51 = .ok (.iconst 0, 1) := by decide +kernel
theorem dX11_isCloudy_52 : decode cX11_isCloudy 52 = .ok (.ireturn, 1) := by decide +kernel
theorem dX11_isCloudy_53 : decode cX11_isCloudy 53 = .ok (.aload_n 0, 1) := by decide +kernel
theorem dX11_isCloudy_54 : decode cX11_isCloudy 54 = .ok (.getfield 96, 3) := by decide +kernel
theorem dX11_isCloudy_57 : decode cX11_isCloudy 57 = .ok (.iload_n 1, 1) := by decide +kernel
theorem dX11_isCloudy_58 : decode cX11_isCloudy 58 = .ok (.aload_n 0, 1) := by decide +kernel
theorem dX11_isCloudy_59 : decode cX11_isCloudy 59 = .ok (.getfield 96, 3) := by decide +kernel
theorem dX11_isCloudy_62 : decode cX11_isCloudy 62 = .ok (.iload_n 1, 1) := by decide +kernel
theorem dX11_isCloudy_63 : decode cX11_isCloudy 63 = .ok (.iaload, 1) := by decide +kernel
theorem dX11_isCloudy_64 : decode cX11_isCloudy 64 = .ok (.ldc_w 426, 3) := by decide +kernel
theorem dX11_isCloudy_67 : decode cX11_isCloudy 67 = .ok (.imul, 1) := by decide +kernel
theorem dX11_isCloudy_68 : decode cX11_isCloudy 68 = .ok (.sipush 12345, 3) := by decide +kernel
theorem dX11_isCloudy_71 : decode cX11_isCloudy 71 = .ok (.iadd, 1) := by decide +kernel
theorem dX11_isCloudy_72 : decode cX11_isCloudy 72 = .ok (.ldc_w 429, 3) := by decide +kernel
theorem dX11_isCloudy_75 : decode cX11_isCloudy 75 = .ok (.iand, 1) := by decide +kernel
theorem dX11_isCloudy_76 : decode cX11_isCloudy 76 = .ok (.iastore, 1) := by decide +kernel
theorem dX11_isCloudy_77 : decode cX11_isCloudy 77 = .ok (.aload_n 0, 1) := by decide +kernel
theorem dX11_isCloudy_78 : decode cX11_isCloudy 78 = .ok (.getfield 96, 3) := by decide +kernel
theorem dX11_isCloudy_81 : decode cX11_isCloudy 81 = .ok (.iload_n 1, 1) := by decide +kernel
theorem dX11_isCloudy_82 : decode cX11_isCloudy 82 = .ok (.iaload, 1) := by decide +kernel
theorem dX11_isCloudy_83 : decode cX11_isCloudy 83 = .ok (.bipush 16, 2) := by decide +kernel
theorem dX11_isCloudy_85 : decode cX11_isCloudy 85 = .ok (.ishr, 1) := by decide +kernel
theorem dX11_isCloudy_86 : decode cX11_isCloudy 86 = .ok (.bipush 100, 2) := by decide +kernel
theorem dX11_isCloudy_88 : decode cX11_isCloudy 88 = .ok (.irem, 1) := by decide +kernel
theorem dX11_isCloudy_89 : decode cX11_isCloudy 89 = .ok (.iload_n 3, 1) := by decide +kernel
theorem dX11_isCloudy_90 : decode cX11_isCloudy 90 = .ok (.if_icmp .ge 7, 3) := by decide +kernel
theorem dX11_isCloudy_93 : decode cX11_isCloudy 93 = .ok (.iconst 1, 1) := by decide +kernel
theorem dX11_isCloudy_94 : decode cX11_isCloudy 94 = .ok (.goto 4, 3) := by decide +kernel
theorem dX11_isCloudy_97 : decode cX11_isCloudy 97 = .ok (.iconst 0, 1) := by decide +kernel
theorem dX11_isCloudy_98 : decode cX11_isCloudy 98 = .ok (.ireturn, 1) := by decide +kernel
theorem dX11_canStep_0 : decode cX11_canStep 0 = .ok (.aload_n 0, 1) := by decide +kernel
theorem dX11_canStep_1 : decode cX11_canStep 1 = .ok (.getfield 102, 3) := by decide +kernel
theorem dX11_canStep_4 : decode cX11_canStep 4 = .ok (.iload_n 1, 1) := by decide +kernel
theorem dX11_canStep_5 : decode cX11_canStep 5 = .ok (.iaload, 1) := by decide +kernel
theorem dX11_canStep_6 : decode cX11_canStep 6 = .ok (.iload_n 2, 1) := by decide +kernel
theorem dX11_canStep_7 : decode cX11_canStep 7 = .ok (.invokestatic 390, 3) := by decide +kernel
theorem dX11_canStep_10 : decode cX11_canStep 10 = .ok (.iadd, 1) := by decide +kernel
theorem dX11_canStep_11 : decode cX11_canStep 11 = .ok (.istore_n 3, 1) := by decide +kernel
theorem dX11_canStep_12 : decode cX11_canStep 12 = .ok (.aload_n 0, 1) := by decide +kernel
theorem dX11_canStep_13 : decode cX11_canStep 13 = .ok (.getfield 105, 3) := by decide +kernel
theorem dX11_canStep_16 : decode cX11_canStep 16 = .ok (.iload_n 1, 1) := by decide +kernel
theorem dX11_canStep_17 : decode cX11_canStep 17 = .ok (.iaload, 1) := by decide +kernel
theorem dX11_canStep_18 : decode cX11_canStep 18 = .ok (.iload_n 2, 1) := by decide +kernel
theorem dX11_canStep_19 : decode cX11_canStep 19 = .ok (.invokestatic 396, 3) := by decide +kernel
theorem dX11_canStep_22 : decode cX11_canStep 22 = .ok (.iadd, 1) := by decide +kernel
theorem dX11_canStep_23 : decode cX11_canStep 23 = .ok (.istore 4, 2) := by decide +kernel
theorem dX11_canStep_25 : decode cX11_canStep 25 = .ok (.aload_n 0, 1) := by decide +kernel
theorem dX11_canStep_26 : decode cX11_canStep 26 = .ok (.iload_n 3, 1) := by decide +kernel
theorem dX11_canStep_27 : decode cX11_canStep 27 = .ok (.iload 4, 2) := by decide +kernel
theorem dX11_canStep_29 : decode cX11_canStep 29 = .ok (.invokevirtual 399, 3) := by decide +kernel
theorem dX11_canStep_32 : decode cX11_canStep 32 = .ok (.ifCond .eq 44, 3) := by decide +kernel
theorem dX11_canStep_35 : decode cX11_canStep 35 = .ok (.aload_n 0, 1) := by decide +kernel
theorem dX11_canStep_36 : decode cX11_canStep 36 = .ok (.getfield 409, 3) := by decide +kernel
theorem dX11_canStep_39 : decode cX11_canStep 39 = .ok (.iconst 3, 1) := by decide +kernel
theorem dX11_canStep_40 : decode cX11_canStep 40 = .ok (.if_icmp .eq 13, 3) := by decide +kernel
theorem dX11_canStep_43 : decode cX11_canStep 43 = .ok (.aload_n 0, 1) := by decide +kernel
theorem dX11_canStep_44 : decode cX11_canStep 44 = .ok (.iload_n 3, 1) := by decide +kernel
theorem dX11_canStep_45 : decode cX11_canStep 45 = .ok (.iload 4, 2) := by decide +kernel
theorem dX11_canStep_47 : decode cX11_canStep 47 = .ok (.invokevirtual 430, 3) := by decide +kernel
theorem dX11_canStep_50 : decode cX11_canStep 50 = .ok (.ifCond .ne 26, 3) := by decide +kernel
theorem dX11_canStep_53 : decode cX11_canStep 53 = .ok (.aload_n 0, 1) := by decide +kernel
theorem dX11_canStep_54 : decode cX11_canStep 54 = .ok (.getfield 409, 3) := by decide +kernel
theorem dX11_canStep_57 : decode cX11_canStep 57 = .ok (.iconst 4, 1) := by decide +kernel
theorem dX11_canStep_58 : decode cX11_canStep 58 = .ok (.if_icmp .eq 14, 3) := by decide +kernel
theorem dX11_canStep_61 : decode cX11_canStep 61 = .ok (.aload_n 0, 1) := by decide +kernel
theorem dX11_canStep_62 : decode cX11_canStep 62 = .ok (.getfield 108, 3) := by decide +kernel
theorem dX11_canStep_65 : decode cX11_canStep 65 = .ok (.iload_n 1, 1) := by decide +kernel
theorem dX11_canStep_66 : decode cX11_canStep 66 = .ok (.iaload, 1) := by decide +kernel
theorem dX11_canStep_67 : decode cX11_canStep 67 = .ok (.bipush 9, 2) := by decide +kernel
theorem dX11_canStep_69 : decode cX11_canStep 69 = .ok (.if_icmp .ge 7, 3) := by decide +kernel
theorem dX11_canStep_72 : decode cX11_canStep 72 = .ok (.iconst 1, 1) := by decide +kernel
theorem dX11_canStep_73 : decode cX11_canStep 73 = .ok (.goto 4, 3) := by decide +kernel
theorem dX11_canStep_76 : decode cX11_canStep 76 = .ok (.iconst 0, 1) := by decide +kernel
theorem dX11_canStep_77 : decode cX11_canStep 77 = .ok (.ireturn, 1) := by decide +kernel
theorem dX11_stepsBy_0 : decode cX11_stepsBy 0 = .ok (.aload_n 0, 1) := by decide +kernel
theorem dX11_stepsBy_1 : decode cX11_stepsBy 1 = .ok (.iload_n 1, 1) := by decide +kernel
theorem dX11_stepsBy_2 : decode cX11_stepsBy 2 = .ok (.iconst 0, 1) := by decide +kernel
theorem dX11_stepsBy_3 : decode cX11_stepsBy 3 = .ok (.iconst 0, 1) := by decide +kernel
theorem dX11_stepsBy_4 : decode cX11_stepsBy 4 = .ok (.iconst 0, 1) := by decide +kernel
theorem dX11_stepsBy_5 : decode cX11_stepsBy 5 = .ok (.aload_n 0, 1) := by decide +kernel
theorem dX11_stepsBy_6 : decode cX11_stepsBy 6 = .ok (.getfield 93, 3) := by decide +kernel
theorem dX11_stepsBy_9 : decode cX11_stepsBy 9 = .ok (.iload_n 1, 1) := by decide +kernel
theorem dX11_stepsBy_10 : decode cX11_stepsBy 10 = .ok (.iaload, 1) := by decide +kernel
theorem dX11_stepsBy_11 : decode cX11_stepsBy 11 = .ok (.bipush 24, 2) := by decide +kernel
theorem dX11_stepsBy_13 : decode cX11_stepsBy 13 = .ok (.irem, 1) := by decide +kernel
theorem dX11_stepsBy_14 : decode cX11_stepsBy 14 = .ok (.invokevirtual 379, 3) := by decide +kernel
theorem dX11_stepsBy_17 : decode cX11_stepsBy 17 = .ok (.aload_n 0, 1) := by decide +kernel
theorem dX11_stepsBy_18 : decode cX11_stepsBy 18 = .ok (.iconst 2, 1) := by decide +kernel
theorem dX11_stepsBy_19 : decode cX11_stepsBy 19 = .ok (.bipush 9, 2) := by decide +kernel
theorem dX11_stepsBy_21 : decode cX11_stepsBy 21 = .ok (.iconst 1, 1) := by decide +kernel
theorem dX11_stepsBy_22 : decode cX11_stepsBy 22 = .ok (.invokevirtual 383, 3) := by decide +kernel
theorem dX11_stepsBy_25 : decode cX11_stepsBy 25 = .ok (.istore_n 3, 1) := by decide +kernel
theorem dX11_stepsBy_26 : decode cX11_stepsBy 26 = .ok (.aload_n 0, 1) := by decide +kernel
theorem dX11_stepsBy_27 : decode cX11_stepsBy 27 = .ok (.getfield 102, 3) := by decide +kernel
theorem dX11_stepsBy_30 : decode cX11_stepsBy 30 = .ok (.iload_n 1, 1) := by decide +kernel
theorem dX11_stepsBy_31 : decode cX11_stepsBy 31 = .ok (.dup2, 1) := by decide +kernel
theorem dX11_stepsBy_32 : decode cX11_stepsBy 32 = .ok (.iaload, 1) := by decide +kernel
theorem dX11_stepsBy_33 : decode cX11_stepsBy 33 = .ok (.iload_n 2, 1) := by decide +kernel
theorem dX11_stepsBy_34 : decode cX11_stepsBy 34 = .ok (.invokestatic 390, 3) := by decide +kernel
theorem dX11_stepsBy_37 : decode cX11_stepsBy 37 = .ok (.iadd, 1) := by decide +kernel
theorem dX11_stepsBy_38 : decode cX11_stepsBy 38 = .ok (.iastore, 1) := by decide +kernel
theorem dX11_stepsBy_39 : decode cX11_stepsBy 39 = .ok (.aload_n 0, 1) := by decide +kernel
theorem dX11_stepsBy_40 : decode cX11_stepsBy 40 = .ok (.getfield 105, 3) := by decide +kernel
theorem dX11_stepsBy_43 : decode cX11_stepsBy 43 = .ok (.iload_n 1, 1) := by decide +kernel
theorem dX11_stepsBy_44 : decode cX11_stepsBy 44 = .ok (.dup2, 1) := by decide +kernel
theorem dX11_stepsBy_45 : decode cX11_stepsBy 45 = .ok (.iaload, 1) := by decide +kernel
theorem dX11_stepsBy_46 : decode cX11_stepsBy 46 = .ok (.iload_n 2, 1) := by decide +kernel
theorem dX11_stepsBy_47 : decode cX11_stepsBy 47 = .ok (.invokestatic 396, 3) := by decide +kernel
theorem dX11_stepsBy_50 : decode cX11_stepsBy 50 = .ok (.iadd, 1) := by decide +kernel
theorem dX11_stepsBy_51 : decode cX11_stepsBy 51 = .ok (.iastore, 1) := by decide +kernel
theorem dX11_stepsBy_52 : decode cX11_stepsBy 52 = .ok (.aload_n 0, 1) := by decide +kernel
theorem dX11_stepsBy_53 : decode cX11_stepsBy 53 = .ok (.getfield 409, 3) := by decide +kernel
theorem dX11_stepsBy_56 : decode cX11_stepsBy 56 = .ok (.iconst 4, 1) := by decide +kernel
theorem dX11_stepsBy_57 : decode cX11_stepsBy 57 = .ok (.if_icmp .eq 22, 3) := by decide +kernel
theorem dX11_stepsBy_60 : decode cX11_stepsBy 60 = .ok (.aload_n 0, 1) := by decide +kernel
theorem dX11_stepsBy_61 : decode cX11_stepsBy 61 = .ok (.getfield 108, 3) := by decide +kernel
theorem dX11_stepsBy_64 : decode cX11_stepsBy 64 = .ok (.iload_n 1, 1) := by decide +kernel
theorem dX11_stepsBy_65 : decode cX11_stepsBy 65 = .ok (.bipush 99, 2) := by decide +kernel
theorem dX11_stepsBy_67 : decode cX11_stepsBy 67 = .ok (.aload_n 0, 1) := by decide +kernel
theorem dX11_stepsBy_68 : decode cX11_stepsBy 68 = .ok (.getfield 108, 3) := by decide +kernel
theorem dX11_stepsBy_71 : decode cX11_stepsBy 71 = .ok (.iload_n 1, 1) := by decide +kernel
theorem dX11_stepsBy_72 : decode cX11_stepsBy 72 = .ok (.iaload, 1) := by decide +kernel
theorem dX11_stepsBy_73 : decode cX11_stepsBy 73 = .ok (.iload_n 3, 1) := by decide +kernel
theorem dX11_stepsBy_74 : decode cX11_stepsBy 74 = .ok (.iadd, 1) := by decide +kernel
theorem dX11_stepsBy_75 : decode cX11_stepsBy 75 = .ok (.invokestatic 433, 3) := by decide +kernel
theorem dX11_stepsBy_78 : decode cX11_stepsBy 78 = .ok (.iastore, 1) := by decide +kernel
theorem dX11_stepsBy_79 : decode cX11_stepsBy 79 = .ok (.return_, 1) := by decide +kernel
theorem dX11_triesStep_0 : decode cX11_triesStep 0 = .ok (.aload_n 0, 1) := by decide +kernel
theorem dX11_triesStep_1 : decode cX11_triesStep 1 = .ok (.iload_n 1, 1) := by decide +kernel
theorem dX11_triesStep_2 : decode cX11_triesStep 2 = .ok (.iload_n 2, 1) := by decide +kernel
theorem dX11_triesStep_3 : decode cX11_triesStep 3 = .ok (.invokevirtual 435, 3) := by decide +kernel
theorem dX11_triesStep_6 : decode cX11_triesStep 6 = .ok (.ifCond .eq 12, 3) := by decide +kernel
theorem dX11_triesStep_9 : decode cX11_triesStep 9 = .ok (.aload_n 0, 1) := by decide +kernel
theorem dX11_triesStep_10 : decode cX11_triesStep 10 = .ok (.iload_n 1, 1) := by decide +kernel
theorem dX11_triesStep_11 : decode cX11_triesStep 11 = .ok (.iload_n 2, 1) := by decide +kernel
theorem dX11_triesStep_12 : decode cX11_triesStep 12 = .ok (.invokevirtual 438, 3) := by decide +kernel
theorem dX11_triesStep_15 : decode cX11_triesStep 15 = .ok (.goto 13, 3) := by decide +kernel
theorem dX11_triesStep_18 : decode cX11_triesStep 18 = .ok (.aload_n 0, 1) := by decide +kernel
theorem dX11_triesStep_19 : decode cX11_triesStep 19 = .ok (.getfield 99, 3) := by decide +kernel
theorem dX11_triesStep_22 : decode cX11_triesStep 22 = .ok (.iload_n 1, 1) := by decide +kernel
theorem dX11_triesStep_23 : decode cX11_triesStep 23 = .ok (.dup2, 1) := by decide +kernel
theorem dX11_triesStep_24 : decode cX11_triesStep 24 = .ok (.iaload, 1) := by decide +kernel
theorem dX11_triesStep_25 : decode cX11_triesStep 25 = .ok (.iconst 1, 1) := by decide +kernel
theorem dX11_triesStep_26 : decode cX11_triesStep 26 = .ok (.iadd, 1) := by decide +kernel
theorem dX11_triesStep_27 : decode cX11_triesStep 27 = .ok (.iastore, 1) := by decide +kernel
theorem dX11_triesStep_28 : decode cX11_triesStep 28 = .ok (.return_, 1) := by decide +kernel
theorem dX11_isHerAt_0 : decode cX11_isHerAt 0 = .ok (.aload_n 0, 1) := by decide +kernel
theorem dX11_isHerAt_1 : decode cX11_isHerAt 1 = .ok (.getfield 102, 3) := by decide +kernel
theorem dX11_isHerAt_4 : decode cX11_isHerAt 4 = .ok (.iload_n 1, 1) := by decide +kernel
theorem dX11_isHerAt_5 : decode cX11_isHerAt 5 = .ok (.iaload, 1) := by decide +kernel
theorem dX11_isHerAt_6 : decode cX11_isHerAt 6 = .ok (.iload_n 2, 1) := by decide +kernel
theorem dX11_isHerAt_7 : decode cX11_isHerAt 7 = .ok (.if_icmp .ne 17, 3) := by decide +kernel
theorem dX11_isHerAt_10 : decode cX11_isHerAt 10 = .ok (.aload_n 0, 1) := by decide +kernel
theorem dX11_isHerAt_11 : decode cX11_isHerAt 11 = .ok (.getfield 105, 3) := by decide +kernel
theorem dX11_isHerAt_14 : decode cX11_isHerAt 14 = .ok (.iload_n 1, 1) := by decide +kernel
theorem dX11_isHerAt_15 : decode cX11_isHerAt 15 = .ok (.iaload, 1) := by decide +kernel
theorem dX11_isHerAt_16 : decode cX11_isHerAt 16 = .ok (.iload_n 3, 1) := by decide +kernel
theorem dX11_isHerAt_17 : decode cX11_isHerAt 17 = .ok (.if_icmp .ne 7, 3) := by decide +kernel
theorem dX11_isHerAt_20 : decode cX11_isHerAt 20 = .ok (.iconst 1, 1) := by decide +kernel
theorem dX11_isHerAt_21 : decode cX11_isHerAt 21 = .ok (.goto 4, 3) := by decide +kernel
theorem dX11_isHerAt_24 : decode cX11_isHerAt 24 = .ok (.iconst 0, 1) := by decide +kernel
theorem dX11_isHerAt_25 : decode cX11_isHerAt 25 = .ok (.ireturn, 1) := by decide +kernel
theorem dX11_isItAt_0 : decode cX11_isItAt 0 = .ok (.aload_n 0, 1) := by decide +kernel
theorem dX11_isItAt_1 : decode cX11_isItAt 1 = .ok (.getfield 403, 3) := by decide +kernel
theorem dX11_isItAt_4 : decode cX11_isItAt 4 = .ok (.ifCond .ne 23, 3) := by decide +kernel
theorem dX11_isItAt_7 : decode cX11_isItAt 7 = .ok (.aload_n 0, 1) := by decide +kernel
theorem dX11_isItAt_8 : decode cX11_isItAt 8 = .ok (.getfield 387, 3) := by decide +kernel
theorem dX11_isItAt_11 : decode cX11_isItAt 11 = .ok (.iload_n 1, 1) := by decide +kernel
theorem dX11_isItAt_12 : decode cX11_isItAt 12 = .ok (.if_icmp .ne 15, 3) := by decide +kernel
theorem dX11_isItAt_15 : decode cX11_isItAt 15 = .ok (.aload_n 0, 1) := by decide +kernel
theorem dX11_isItAt_16 : decode cX11_isItAt 16 = .ok (.getfield 393, 3) := by decide +kernel
theorem dX11_isItAt_19 : decode cX11_isItAt 19 = .ok (.iload_n 2, 1) := by decide +kernel
theorem dX11_isItAt_20 : decode cX11_isItAt 20 = .ok (.if_icmp .ne 7, 3) := by decide +kernel
theorem dX11_isItAt_23 : decode cX11_isItAt 23 = .ok (.iconst 1, 1) := by decide +kernel
theorem dX11_isItAt_24 : decode cX11_isItAt 24 = .ok (.goto 4, 3) := by decide +kernel
theorem dX11_isItAt_27 : decode cX11_isItAt 27 = .ok (.iconst 0, 1) := by decide +kernel
theorem dX11_isItAt_28 : decode cX11_isItAt 28 = .ok (.ireturn, 1) := by decide +kernel
theorem dX11_doings_0 : decode cX11_doings 0 = .ok (.iconst 0, 1) := by decide +kernel
theorem dX11_doings_1 : decode cX11_doings 1 = .ok (.istore_n 2, 1) := by decide +kernel
theorem dX11_doings_2 : decode cX11_doings 2 = .ok (.iload_n 2, 1) := by decide +kernel
theorem dX11_doings_3 : decode cX11_doings 3 = .ok (.aload_n 0, 1) := by decide +kernel
theorem dX11_doings_4 : decode cX11_doings 4 = .ok (.getfield 13, 3) := by decide +kernel
theorem dX11_doings_7 : decode cX11_doings 7 = .ok (.bipush 8, 2) := by decide +kernel
theorem dX11_doings_9 : decode cX11_doings 9 = .ok (.iaload, 1) := by decide +kernel
theorem dX11_doings_10 : decode cX11_doings 10 = .ok (.if_icmp .ge 71, 3) := by decide +kernel
theorem dX11_doings_13 : decode cX11_doings 13 = .ok (.aload_n 0, 1) := by decide +kernel
theorem dX11_doings_14 : decode cX11_doings 14 = .ok (.getfield 49, 3) := by decide +kernel
theorem dX11_doings_17 : decode cX11_doings 17 = .ok (.iload_n 2, 1) := by decide +kernel
theorem dX11_doings_18 : decode cX11_doings 18 = .ok (.iaload, 1) := by decide +kernel
theorem dX11_doings_19 : decode cX11_doings 19 = .ok (.ifCond .ne 23, 3) := by decide +kernel
theorem dX11_doings_22 : decode cX11_doings 22 = .ok (.aload_n 0, 1) := by decide +kernel
theorem dX11_doings_23 : decode cX11_doings 23 = .ok (.iload_n 1, 1) := by decide +kernel
theorem dX11_doings_24 : decode cX11_doings 24 = .ok (.aload_n 0, 1) := by decide +kernel
theorem dX11_doings_25 : decode cX11_doings 25 = .ok (.getfield 52, 3) := by decide +kernel
theorem dX11_doings_28 : decode cX11_doings 28 = .ok (.iload_n 2, 1) := by decide +kernel
theorem dX11_doings_29 : decode cX11_doings 29 = .ok (.iaload, 1) := by decide +kernel
theorem dX11_doings_30 : decode cX11_doings 30 = .ok (.aload_n 0, 1) := by decide +kernel
theorem dX11_doings_31 : decode cX11_doings 31 = .ok (.getfield 55, 3) := by decide +kernel
theorem dX11_doings_34 : decode cX11_doings 34 = .ok (.iload_n 2, 1) := by decide +kernel
theorem dX11_doings_35 : decode cX11_doings 35 = .ok (.iaload, 1) := by decide +kernel
theorem dX11_doings_36 : decode cX11_doings 36 = .ok (.invokevirtual 441, 3) := by decide +kernel
theorem dX11_doings_39 : decode cX11_doings 39 = .ok (.goto 19, 3) := by decide +kernel
theorem dX11_doings_42 : decode cX11_doings 42 = .ok (.aload_n 0, 1) := by decide +kernel
theorem dX11_doings_43 : decode cX11_doings 43 = .ok (.aload_n 0, 1) := by decide +kernel
theorem dX11_doings_44 : decode cX11_doings 44 = .ok (.getfield 52, 3) := by decide +kernel
theorem dX11_doings_47 : decode cX11_doings 47 = .ok (.iload_n 2, 1) := by decide +kernel
theorem dX11_doings_48 : decode cX11_doings 48 = .ok (.iaload, 1) := by decide +kernel
theorem dX11_doings_49 : decode cX11_doings 49 = .ok (.aload_n 0, 1) := by decide +kernel
theorem dX11_doings_50 : decode cX11_doings 50 = .ok (.getfield 55, 3) := by decide +kernel
theorem dX11_doings_53 : decode cX11_doings 53 = .ok (.iload_n 2, 1) := by decide +kernel
theorem dX11_doings_54 : decode cX11_doings 54 = .ok (.iaload, 1) := by decide +kernel
theorem dX11_doings_55 : decode cX11_doings 55 = .ok (.invokevirtual 445, 3) := by decide +kernel
theorem dX11_doings_58 : decode cX11_doings 58 = .ok (.istore_n 3, 1) := by decide +kernel
theorem dX11_doings_59 : decode cX11_doings 59 = .ok (.iload_n 3, 1) := by decide +kernel
theorem dX11_doings_60 : decode cX11_doings 60 = .ok (.ifCond .eq 15, 3) := by decide +kernel
theorem dX11_doings_63 : decode cX11_doings 63 = .ok (.aload_n 0, 1) := by decide +kernel
theorem dX11_doings_64 : decode cX11_doings 64 = .ok (.getfield 117, 3) := by decide +kernel
theorem dX11_doings_67 : decode cX11_doings 67 = .ok (.iload_n 1, 1) := by decide +kernel
theorem dX11_doings_68 : decode cX11_doings 68 = .ok (.dup2, 1) := by decide +kernel
theorem dX11_doings_69 : decode cX11_doings 69 = .ok (.iaload, 1) := by decide +kernel
theorem dX11_doings_70 : decode cX11_doings 70 = .ok (.iconst 1, 1) := by decide +kernel
theorem dX11_doings_71 : decode cX11_doings 71 = .ok (.iload_n 2, 1) := by decide +kernel
theorem dX11_doings_72 : decode cX11_doings 72 = .ok (.ishl, 1) := by decide +kernel
theorem dX11_doings_73 : decode cX11_doings 73 = .ok (.ior, 1) := by decide +kernel
theorem dX11_doings_74 : decode cX11_doings 74 = .ok (.iastore, 1) := by decide +kernel
theorem dX11_doings_75 : decode cX11_doings 75 = .ok (.iinc 2 1, 3) := by decide +kernel
theorem dX11_doings_78 : decode cX11_doings 78 = .ok (.goto (-76), 3) := by decide +kernel
theorem dX11_doings_81 : decode cX11_doings 81 = .ok (.return_, 1) := by decide +kernel
theorem dX11_meets_0 : decode cX11_meets 0 = .ok (.iconst 4, 1) := by decide +kernel
theorem dX11_meets_1 : decode cX11_meets 1 = .ok (.iload_n 1, 1) := by decide +kernel
theorem dX11_meets_2 : decode cX11_meets 2 = .ok (.imul, 1) := by decide +kernel
theorem dX11_meets_3 : decode cX11_meets 3 = .ok (.iload_n 2, 1) := by decide +kernel
theorem dX11_meets_4 : decode cX11_meets 4 = .ok (.iadd, 1) := by decide +kernel
theorem dX11_meets_5 : decode cX11_meets 5 = .ok (.istore_n 3, 1) := by decide +kernel
theorem dX11_meets_6 : decode cX11_meets 6 = .ok (.aload_n 0, 1) := by decide +kernel
theorem dX11_meets_7 : decode cX11_meets 7 = .ok (.iload_n 1, 1) := by decide +kernel
theorem dX11_meets_8 : decode cX11_meets 8 = .ok (.aload_n 0, 1) := by decide +kernel
theorem dX11_meets_9 : decode cX11_meets 9 = .ok (.getfield 64, 3) := by decide +kernel
theorem dX11_meets_12 : decode cX11_meets 12 = .ok (.iload_n 2, 1) := by decide +kernel
theorem dX11_meets_13 : decode cX11_meets 13 = .ok (.iaload, 1) := by decide +kernel
theorem dX11_meets_14 : decode cX11_meets 14 = .ok (.aload_n 0, 1) := by decide +kernel
theorem dX11_meets_15 : decode cX11_meets 15 = .ok (.getfield 67, 3) := by decide +kernel
theorem dX11_meets_18 : decode cX11_meets 18 = .ok (.iload_n 2, 1) := by decide +kernel
theorem dX11_meets_19 : decode cX11_meets 19 = .ok (.iaload, 1) := by decide +kernel
theorem dX11_meets_20 : decode cX11_meets 20 = .ok (.invokevirtual 441, 3) := by decide +kernel
theorem dX11_meets_23 : decode cX11_meets 23 = .ok (.ifCond .eq 24, 3) := by decide +kernel
theorem dX11_meets_26 : decode cX11_meets 26 = .ok (.aload_n 0, 1) := by decide +kernel
theorem dX11_meets_27 : decode cX11_meets 27 = .ok (.getfield 120, 3) := by decide +kernel
theorem dX11_meets_30 : decode cX11_meets 30 = .ok (.iload_n 3, 1) := by decide +kernel
theorem dX11_meets_31 : decode cX11_meets 31 = .ok (.sipush 999, 3) := by decide +kernel
theorem dX11_meets_34 : decode cX11_meets 34 = .ok (.aload_n 0, 1) := by decide +kernel
theorem dX11_meets_35 : decode cX11_meets 35 = .ok (.getfield 120, 3) := by decide +kernel
theorem dX11_meets_38 : decode cX11_meets 38 = .ok (.iload_n 3, 1) := by decide +kernel
theorem dX11_meets_39 : decode cX11_meets 39 = .ok (.iaload, 1) := by decide +kernel
theorem dX11_meets_40 : decode cX11_meets 40 = .ok (.iconst 1, 1) := by decide +kernel
theorem dX11_meets_41 : decode cX11_meets 41 = .ok (.iadd, 1) := by decide +kernel
theorem dX11_meets_42 : decode cX11_meets 42 = .ok (.invokestatic 433, 3) := by decide +kernel
theorem dX11_meets_45 : decode cX11_meets 45 = .ok (.iastore, 1) := by decide +kernel
theorem dX11_meets_46 : decode cX11_meets 46 = .ok (.return_, 1) := by decide +kernel
theorem dX11_meets_47 : decode cX11_meets 47 = .ok (.aload_n 0, 1) := by decide +kernel
theorem dX11_meets_48 : decode cX11_meets 48 = .ok (.aload_n 0, 1) := by decide +kernel
theorem dX11_meets_49 : decode cX11_meets 49 = .ok (.getfield 64, 3) := by decide +kernel
theorem dX11_meets_52 : decode cX11_meets 52 = .ok (.iload_n 2, 1) := by decide +kernel
theorem dX11_meets_53 : decode cX11_meets 53 = .ok (.iaload, 1) := by decide +kernel
theorem dX11_meets_54 : decode cX11_meets 54 = .ok (.aload_n 0, 1) := by decide +kernel
theorem dX11_meets_55 : decode cX11_meets 55 = .ok (.getfield 67, 3) := by decide +kernel
theorem dX11_meets_58 : decode cX11_meets 58 = .ok (.iload_n 2, 1) := by decide +kernel
theorem dX11_meets_59 : decode cX11_meets 59 = .ok (.iaload, 1) := by decide +kernel
theorem dX11_meets_60 : decode cX11_meets 60 = .ok (.invokevirtual 445, 3) := by decide +kernel
theorem dX11_meets_63 : decode cX11_meets 63 = .ok (.ifCond .ne 4, 3) := by decide +kernel
theorem dX11_meets_66 : decode cX11_meets 66 = .ok (.return_, 1) := by decide +kernel
theorem dX11_meets_67 : decode cX11_meets 67 = .ok (.aload_n 0, 1) := by decide +kernel
theorem dX11_meets_68 : decode cX11_meets 68 = .ok (.getfield 123, 3) := by decide +kernel
theorem dX11_meets_71 : decode cX11_meets 71 = .ok (.iload_n 3, 1) := by decide +kernel
theorem dX11_meets_72 : decode cX11_meets 72 = .ok (.sipush 999, 3) := by decide +kernel
theorem dX11_meets_75 : decode cX11_meets 75 = .ok (.aload_n 0, 1) := by decide +kernel
theorem dX11_meets_76 : decode cX11_meets 76 = .ok (.getfield 123, 3) := by decide +kernel
theorem dX11_meets_79 : decode cX11_meets 79 = .ok (.iload_n 3, 1) := by decide +kernel
theorem dX11_meets_80 : decode cX11_meets 80 = .ok (.iaload, 1) := by decide +kernel
theorem dX11_meets_81 : decode cX11_meets 81 = .ok (.iconst 1, 1) := by decide +kernel
theorem dX11_meets_82 : decode cX11_meets 82 = .ok (.iadd, 1) := by decide +kernel
theorem dX11_meets_83 : decode cX11_meets 83 = .ok (.invokestatic 433, 3) := by decide +kernel
theorem dX11_meets_86 : decode cX11_meets 86 = .ok (.iastore, 1) := by decide +kernel
theorem dX11_meets_87 : decode cX11_meets 87 = .ok (.aload_n 0, 1) := by decide +kernel
theorem dX11_meets_88 : decode cX11_meets 88 = .ok (.iload_n 1, 1) := by decide +kernel
theorem dX11_meets_89 : decode cX11_meets 89 = .ok (.iconst 0, 1) := by decide +kernel
theorem dX11_meets_90 : decode cX11_meets 90 = .ok (.aload_n 0, 1) := by decide +kernel
theorem dX11_meets_91 : decode cX11_meets 91 = .ok (.getfield 120, 3) := by decide +kernel
theorem dX11_meets_94 : decode cX11_meets 94 = .ok (.iload_n 3, 1) := by decide +kernel
theorem dX11_meets_95 : decode cX11_meets 95 = .ok (.iaload, 1) := by decide +kernel
theorem dX11_meets_96 : decode cX11_meets 96 = .ok (.aload_n 0, 1) := by decide +kernel
theorem dX11_meets_97 : decode cX11_meets 97 = .ok (.getfield 123, 3) := by decide +kernel
theorem dX11_meets_100 : decode cX11_meets 100 = .ok (.iload_n 3, 1) := by decide +kernel
theorem dX11_meets_101 : decode cX11_meets 101 = .ok (.iaload, 1) := by decide +kernel
theorem dX11_meets_102 : decode cX11_meets 102 = .ok (.aload_n 0, 1) := by decide +kernel
theorem dX11_meets_103 : decode cX11_meets 103 = .ok (.getfield 93, 3) := by decide +kernel
theorem dX11_meets_106 : decode cX11_meets 106 = .ok (.iload_n 1, 1) := by decide +kernel
theorem dX11_meets_107 : decode cX11_meets 107 = .ok (.iaload, 1) := by decide +kernel
theorem dX11_meets_108 : decode cX11_meets 108 = .ok (.bipush 24, 2) := by decide +kernel
theorem dX11_meets_110 : decode cX11_meets 110 = .ok (.irem, 1) := by decide +kernel
theorem dX11_meets_111 : decode cX11_meets 111 = .ok (.invokevirtual 379, 3) := by decide +kernel
theorem dX11_meets_114 : decode cX11_meets 114 = .ok (.aload_n 0, 1) := by decide +kernel
theorem dX11_meets_115 : decode cX11_meets 115 = .ok (.getfield 126, 3) := by decide +kernel
theorem dX11_meets_118 : decode cX11_meets 118 = .ok (.iload_n 3, 1) := by decide +kernel
theorem dX11_meets_119 : decode cX11_meets 119 = .ok (.sipush 999, 3) := by decide +kernel
theorem dX11_meets_122 : decode cX11_meets 122 = .ok (.aload_n 0, 1) := by decide +kernel
theorem dX11_meets_123 : decode cX11_meets 123 = .ok (.getfield 126, 3) := by decide +kernel
theorem dX11_meets_126 : decode cX11_meets 126 = .ok (.iload_n 3, 1) := by decide +kernel
theorem dX11_meets_127 : decode cX11_meets 127 = .ok (.iaload, 1) := by decide +kernel
theorem dX11_meets_128 : decode cX11_meets 128 = .ok (.aload_n 0, 1) := by decide +kernel
theorem dX11_meets_129 : decode cX11_meets 129 = .ok (.iconst 1, 1) := by decide +kernel
theorem dX11_meets_130 : decode cX11_meets 130 = .ok (.bipush 99, 2) := by decide +kernel
theorem dX11_meets_132 : decode cX11_meets 132 = .ok (.iconst 1, 1) := by decide +kernel
theorem dX11_meets_133 : decode cX11_meets 133 = .ok (.invokevirtual 383, 3) := by decide +kernel
theorem dX11_meets_136 : decode cX11_meets 136 = .ok (.iadd, 1) := by decide +kernel
theorem dX11_meets_137 : decode cX11_meets 137 = .ok (.invokestatic 433, 3) := by decide +kernel
theorem dX11_meets_140 : decode cX11_meets 140 = .ok (.iastore, 1) := by decide +kernel
theorem dX11_meets_141 : decode cX11_meets 141 = .ok (.return_, 1) := by decide +kernel
theorem dX11_passes_0 : decode cX11_passes 0 = .ok (.aload_n 0, 1) := by decide +kernel
theorem dX11_passes_1 : decode cX11_passes 1 = .ok (.iload_n 1, 1) := by decide +kernel
theorem dX11_passes_2 : decode cX11_passes 2 = .ok (.iload_n 2, 1) := by decide +kernel
theorem dX11_passes_3 : decode cX11_passes 3 = .ok (.invokevirtual 448, 3) := by decide +kernel
theorem dX11_passes_6 : decode cX11_passes 6 = .ok (.istore_n 3, 1) := by decide +kernel
theorem dX11_passes_7 : decode cX11_passes 7 = .ok (.iconst 0, 1) := by decide +kernel
theorem dX11_passes_8 : decode cX11_passes 8 = .ok (.istore 4, 2) := by decide +kernel
theorem dX11_passes_10 : decode cX11_passes 10 = .ok (.iload 4, 2) := by decide +kernel
theorem dX11_passes_12 : decode cX11_passes 12 = .ok (.aload_n 0, 1) := by decide +kernel
theorem dX11_passes_13 : decode cX11_passes 13 = .ok (.getfield 13, 3) := by decide +kernel
theorem dX11_passes_16 : decode cX11_passes 16 = .ok (.bipush 7, 2) := by decide +kernel
theorem dX11_passes_18 : decode cX11_passes 18 = .ok (.iaload, 1) := by decide +kernel
theorem dX11_passes_19 : decode cX11_passes 19 = .ok (.if_icmp .ge 37, 3) := by decide +kernel
theorem dX11_passes_22 : decode cX11_passes 22 = .ok (.aload_n 0, 1) := by decide +kernel
theorem dX11_passes_23 : decode cX11_passes 23 = .ok (.getfield 40, 3) := by decide +kernel
theorem dX11_passes_26 : decode cX11_passes 26 = .ok (.iload 4, 2) := by decide +kernel
theorem dX11_passes_28 : decode cX11_passes 28 = .ok (.iaload, 1) := by decide +kernel
theorem dX11_passes_29 : decode cX11_passes 29 = .ok (.aload_n 0, 1) := by decide +kernel
theorem dX11_passes_30 : decode cX11_passes 30 = .ok (.getfield 93, 3) := by decide +kernel
theorem dX11_passes_33 : decode cX11_passes 33 = .ok (.iload_n 1, 1) := by decide +kernel
theorem dX11_passes_34 : decode cX11_passes 34 = .ok (.iaload, 1) := by decide +kernel
theorem dX11_passes_35 : decode cX11_passes 35 = .ok (.if_icmp .ne 15, 3) := by decide +kernel
theorem dX11_passes_38 : decode cX11_passes 38 = .ok (.aload_n 0, 1) := by decide +kernel
theorem dX11_passes_39 : decode cX11_passes 39 = .ok (.iload_n 1, 1) := by decide +kernel
theorem dX11_passes_40 : decode cX11_passes 40 = .ok (.aload_n 0, 1) := by decide +kernel
theorem dX11_passes_41 : decode cX11_passes 41 = .ok (.getfield 43, 3) := by decide +kernel
theorem dX11_passes_44 : decode cX11_passes 44 = .ok (.iload 4, 2) := by decide +kernel
theorem dX11_passes_46 : decode cX11_passes 46 = .ok (.iaload, 1) := by decide +kernel
theorem dX11_passes_47 : decode cX11_passes 47 = .ok (.invokevirtual 452, 3) := by decide +kernel
theorem dX11_passes_50 : decode cX11_passes 50 = .ok (.iinc 4 1, 3) := by decide +kernel
theorem dX11_passes_53 : decode cX11_passes 53 = .ok (.goto (-43), 3) := by decide +kernel
theorem dX11_passes_56 : decode cX11_passes 56 = .ok (.aload_n 0, 1) := by decide +kernel
theorem dX11_passes_57 : decode cX11_passes 57 = .ok (.iload_n 1, 1) := by decide +kernel
theorem dX11_passes_58 : decode cX11_passes 58 = .ok (.aload_n 0, 1) := by decide +kernel
theorem dX11_passes_59 : decode cX11_passes 59 = .ok (.getfield 93, 3) := by decide +kernel
theorem dX11_passes_62 : decode cX11_passes 62 = .ok (.iload_n 1, 1) := by decide +kernel
theorem dX11_passes_63 : decode cX11_passes 63 = .ok (.iaload, 1) := by decide +kernel
theorem dX11_passes_64 : decode cX11_passes 64 = .ok (.bipush 24, 2) := by decide +kernel
theorem dX11_passes_66 : decode cX11_passes 66 = .ok (.irem, 1) := by decide +kernel
theorem dX11_passes_67 : decode cX11_passes 67 = .ok (.iload_n 3, 1) := by decide +kernel
theorem dX11_passes_68 : decode cX11_passes 68 = .ok (.invokevirtual 455, 3) := by decide +kernel
theorem dX11_passes_71 : decode cX11_passes 71 = .ok (.aload_n 0, 1) := by decide +kernel
theorem dX11_passes_72 : decode cX11_passes 72 = .ok (.getfield 111, 3) := by decide +kernel
theorem dX11_passes_75 : decode cX11_passes 75 = .ok (.iload_n 1, 1) := by decide +kernel
theorem dX11_passes_76 : decode cX11_passes 76 = .ok (.dup2, 1) := by decide +kernel
theorem dX11_passes_77 : decode cX11_passes 77 = .ok (.iaload, 1) := by decide +kernel
theorem dX11_passes_78 : decode cX11_passes 78 = .ok (.aload_n 0, 1) := by decide +kernel
theorem dX11_passes_79 : decode cX11_passes 79 = .ok (.getfield 403, 3) := by decide +kernel
theorem dX11_passes_82 : decode cX11_passes 82 = .ok (.ifCond .eq 7, 3) := by decide +kernel
theorem dX11_passes_85 : decode cX11_passes 85 = .ok (.iconst 1, 1) := by decide +kernel
theorem dX11_passes_86 : decode cX11_passes 86 = .ok (.goto 4, 3) := by decide +kernel
theorem dX11_passes_89 : decode cX11_passes 89 = .ok (.iconst 0, 1) := by decide +kernel
theorem dX11_passes_90 : decode cX11_passes 90 = .ok (.iadd, 1) := by decide +kernel
theorem dX11_passes_91 : decode cX11_passes 91 = .ok (.iastore, 1) := by decide +kernel
theorem dX11_passes_92 : decode cX11_passes 92 = .ok (.aload_n 0, 1) := by decide +kernel
theorem dX11_passes_93 : decode cX11_passes 93 = .ok (.iload_n 1, 1) := by decide +kernel
theorem dX11_passes_94 : decode cX11_passes 94 = .ok (.invokevirtual 459, 3) := by decide +kernel
theorem dX11_passes_97 : decode cX11_passes 97 = .ok (.iconst 0, 1) := by decide +kernel
theorem dX11_passes_98 : decode cX11_passes 98 = .ok (.istore 4, 2) := by decide +kernel
theorem dX11_passes_100 : decode cX11_passes 100 = .ok (.iload 4, 2) := by decide +kernel
theorem dX11_passes_102 : decode cX11_passes 102 = .ok (.aload_n 0, 1) := by decide +kernel
theorem dX11_passes_103 : decode cX11_passes 103 = .ok (.getfield 13, 3) := by decide +kernel
theorem dX11_passes_106 : decode cX11_passes 106 = .ok (.bipush 9, 2) := by decide +kernel
theorem dX11_passes_108 : decode cX11_passes 108 = .ok (.iaload, 1) := by decide +kernel
theorem dX11_passes_109 : decode cX11_passes 109 = .ok (.if_icmp .ge 16, 3) := by decide +kernel
theorem dX11_passes_112 : decode cX11_passes 112 = .ok (.aload_n 0, 1) := by decide +kernel
theorem dX11_passes_113 : decode cX11_passes 113 = .ok (.iload_n 1, 1) := by decide +kernel
theorem dX11_passes_114 : decode cX11_passes 114 = .ok (.iload 4, 2) := by decide +kernel
theorem dX11_passes_116 : decode cX11_passes 116 = .ok (.invokevirtual 462, 3) := by decide +kernel
theorem dX11_passes_119 : decode cX11_passes 119 = .ok (.iinc 4 1, 3) := by decide +kernel
theorem dX11_passes_122 : decode cX11_passes 122 = .ok (.goto (-22), 3) := by decide +kernel
theorem dX11_passes_125 : decode cX11_passes 125 = .ok (.aload_n 0, 1) := by decide +kernel
theorem dX11_passes_126 : decode cX11_passes 126 = .ok (.getfield 93, 3) := by decide +kernel
theorem dX11_passes_129 : decode cX11_passes 129 = .ok (.iload_n 1, 1) := by decide +kernel
theorem dX11_passes_130 : decode cX11_passes 130 = .ok (.iaload, 1) := by decide +kernel
theorem dX11_passes_131 : decode cX11_passes 131 = .ok (.bipush 24, 2) := by decide +kernel
theorem dX11_passes_133 : decode cX11_passes 133 = .ok (.irem, 1) := by decide +kernel
theorem dX11_passes_134 : decode cX11_passes 134 = .ok (.bipush 23, 2) := by decide +kernel
theorem dX11_passes_136 : decode cX11_passes 136 = .ok (.if_icmp .ne 10, 3) := by decide +kernel
theorem dX11_passes_139 : decode cX11_passes 139 = .ok (.aload_n 0, 1) := by decide +kernel
theorem dX11_passes_140 : decode cX11_passes 140 = .ok (.getfield 108, 3) := by decide +kernel
theorem dX11_passes_143 : decode cX11_passes 143 = .ok (.iload_n 1, 1) := by decide +kernel
theorem dX11_passes_144 : decode cX11_passes 144 = .ok (.iconst 0, 1) := by decide +kernel
theorem dX11_passes_145 : decode cX11_passes 145 = .ok (.iastore, 1) := by decide +kernel
theorem dX11_passes_146 : decode cX11_passes 146 = .ok (.aload_n 0, 1) := by decide +kernel
theorem dX11_passes_147 : decode cX11_passes 147 = .ok (.getfield 93, 3) := by decide +kernel
theorem dX11_passes_150 : decode cX11_passes 150 = .ok (.iload_n 1, 1) := by decide +kernel
theorem dX11_passes_151 : decode cX11_passes 151 = .ok (.dup2, 1) := by decide +kernel
theorem dX11_passes_152 : decode cX11_passes 152 = .ok (.iaload, 1) := by decide +kernel
theorem dX11_passes_153 : decode cX11_passes 153 = .ok (.iconst 1, 1) := by decide +kernel
theorem dX11_passes_154 : decode cX11_passes 154 = .ok (.iadd, 1) := by decide +kernel
theorem dX11_passes_155 : decode cX11_passes 155 = .ok (.iastore, 1) := by decide +kernel
theorem dX11_passes_156 : decode cX11_passes 156 = .ok (.return_, 1) := by decide +kernel
theorem dX11_goesOn_0 : decode cX11_goesOn 0 = .ok (.iconst 0, 1) := by decide +kernel
theorem dX11_goesOn_1 : decode cX11_goesOn 1 = .ok (.istore_n 2, 1) := by decide +kernel
theorem dX11_goesOn_2 : decode cX11_goesOn 2 = .ok (.iload_n 2, 1) := by decide +kernel
theorem dX11_goesOn_3 : decode cX11_goesOn 3 = .ok (.iload_n 1, 1) := by decide +kernel
theorem dX11_goesOn_4 : decode cX11_goesOn 4 = .ok (.if_icmp .ge 15, 3) := by decide +kernel
theorem dX11_goesOn_7 : decode cX11_goesOn 7 = .ok (.aload_n 0, 1) := by decide +kernel
theorem dX11_goesOn_8 : decode cX11_goesOn 8 = .ok (.iconst 1, 1) := by decide +kernel
theorem dX11_goesOn_9 : decode cX11_goesOn 9 = .ok (.iconst 0, 1) := by decide +kernel
theorem dX11_goesOn_10 : decode cX11_goesOn 10 = .ok (.invokevirtual 465, 3) := by decide +kernel
theorem dX11_goesOn_13 : decode cX11_goesOn 13 = .ok (.iinc 2 1, 3) := by decide +kernel
theorem dX11_goesOn_16 : decode cX11_goesOn 16 = .ok (.goto (-14), 3) := by decide +kernel
theorem dX11_goesOn_19 : decode cX11_goesOn 19 = .ok (.return_, 1) := by decide +kernel
theorem dX11_worthOf_0 : decode cX11_worthOf 0 = .ok (.iconst 0, 1) := by decide +kernel
theorem dX11_worthOf_1 : decode cX11_worthOf 1 = .ok (.istore_n 2, 1) := by decide +kernel
theorem dX11_worthOf_2 : decode cX11_worthOf 2 = .ok (.iconst 0, 1) := by decide +kernel
theorem dX11_worthOf_3 : decode cX11_worthOf 3 = .ok (.istore_n 3, 1) := by decide +kernel
theorem dX11_worthOf_4 : decode cX11_worthOf 4 = .ok (.iload_n 3, 1) := by decide +kernel
theorem dX11_worthOf_5 : decode cX11_worthOf 5 = .ok (.aload_n 0, 1) := by decide +kernel
theorem dX11_worthOf_6 : decode cX11_worthOf 6 = .ok (.getfield 13, 3) := by decide +kernel
theorem dX11_worthOf_9 : decode cX11_worthOf 9 = .ok (.bipush 8, 2) := by decide +kernel
theorem dX11_worthOf_11 : decode cX11_worthOf 11 = .ok (.iaload, 1) := by decide +kernel
theorem dX11_worthOf_12 : decode cX11_worthOf 12 = .ok (.if_icmp .ge 36, 3) := by decide +kernel
theorem dX11_worthOf_15 : decode cX11_worthOf 15 = .ok (.iload_n 2, 1) := by decide +kernel
theorem dX11_worthOf_16 : decode cX11_worthOf 16 = .ok (.aload_n 0, 1) := by decide +kernel
theorem dX11_worthOf_17 : decode cX11_worthOf 17 = .ok (.getfield 117, 3) := by decide +kernel
theorem dX11_worthOf_20 : decode cX11_worthOf 20 = .ok (.iload_n 1, 1) := by decide +kernel
theorem dX11_worthOf_21 : decode cX11_worthOf 21 = .ok (.iaload, 1) := by decide +kernel
theorem dX11_worthOf_22 : decode cX11_worthOf 22 = .ok (.iload_n 3, 1) := by decide +kernel
theorem dX11_worthOf_23 : decode cX11_worthOf 23 = .ok (.ishr, 1) := by decide +kernel
theorem dX11_worthOf_24 : decode cX11_worthOf 24 = .ok (.iconst 1, 1) := by decide +kernel
theorem dX11_worthOf_25 : decode cX11_worthOf 25 = .ok (.iand, 1) := by decide +kernel
theorem dX11_worthOf_26 : decode cX11_worthOf 26 = .ok (.iconst 1, 1) := by decide +kernel
theorem dX11_worthOf_27 : decode cX11_worthOf 27 = .ok (.if_icmp .ne 12, 3) := by decide +kernel
theorem dX11_worthOf_30 : decode cX11_worthOf 30 = .ok (.aload_n 0, 1) := by decide +kernel
theorem dX11_worthOf_31 : decode cX11_worthOf 31 = .ok (.getfield 58, 3) := by decide +kernel
theorem dX11_worthOf_34 : decode cX11_worthOf 34 = .ok (.iload_n 3, 1) := by decide +kernel
theorem dX11_worthOf_35 : decode cX11_worthOf 35 = .ok (.iaload, 1) := by decide +kernel
theorem dX11_worthOf_36 : decode cX11_worthOf 36 = .ok (.goto 4, 3) := by decide +kernel
theorem dX11_worthOf_39 : decode cX11_worthOf 39 = .ok (.iconst 0, 1) := by decide +kernel
theorem dX11_worthOf_40 : decode cX11_worthOf 40 = .ok (.iadd, 1) := by decide +kernel
theorem dX11_worthOf_41 : decode cX11_worthOf 41 = .ok (.istore_n 2, 1) := by decide +kernel
theorem dX11_worthOf_42 : decode cX11_worthOf 42 = .ok (.iinc 3 1, 3) := by decide +kernel
theorem dX11_worthOf_45 : decode cX11_worthOf 45 = .ok (.goto (-41), 3) := by decide +kernel
theorem dX11_worthOf_48 : decode cX11_worthOf 48 = .ok (.iload_n 2, 1) := by decide +kernel
theorem dX11_worthOf_49 : decode cX11_worthOf 49 = .ok (.ireturn, 1) := by decide +kernel
theorem dX11_fondAll_0 : decode cX11_fondAll 0 = .ok (.iconst 0, 1) := by decide +kernel
theorem dX11_fondAll_1 : decode cX11_fondAll 1 = .ok (.istore_n 2, 1) := by decide +kernel
theorem dX11_fondAll_2 : decode cX11_fondAll 2 = .ok (.iconst 0, 1) := by decide +kernel
theorem dX11_fondAll_3 : decode cX11_fondAll 3 = .ok (.istore_n 3, 1) := by decide +kernel
theorem dX11_fondAll_4 : decode cX11_fondAll 4 = .ok (.iload_n 3, 1) := by decide +kernel
theorem dX11_fondAll_5 : decode cX11_fondAll 5 = .ok (.aload_n 0, 1) := by decide +kernel
theorem dX11_fondAll_6 : decode cX11_fondAll 6 = .ok (.getfield 13, 3) := by decide +kernel
theorem dX11_fondAll_9 : decode cX11_fondAll 9 = .ok (.bipush 9, 2) := by decide +kernel
theorem dX11_fondAll_11 : decode cX11_fondAll 11 = .ok (.iaload, 1) := by decide +kernel
theorem dX11_fondAll_12 : decode cX11_fondAll 12 = .ok (.if_icmp .ge 22, 3) := by decide +kernel
theorem dX11_fondAll_15 : decode cX11_fondAll 15 = .ok (.iload_n 2, 1) := by decide +kernel
theorem dX11_fondAll_16 : decode cX11_fondAll 16 = .ok (.aload_n 0, 1) := by decide +kernel
theorem dX11_fondAll_17 : decode cX11_fondAll 17 = .ok (.getfield 126, 3) := by decide +kernel
theorem dX11_fondAll_20 : decode cX11_fondAll 20 = .ok (.iconst 4, 1) := by decide +kernel
theorem dX11_fondAll_21 : decode cX11_fondAll 21 = .ok (.iload_n 1, 1) := by decide +kernel
theorem dX11_fondAll_22 : decode cX11_fondAll 22 = .ok (.imul, 1) := by decide +kernel
theorem dX11_fondAll_23 : decode cX11_fondAll 23 = .ok (.iload_n 3, 1) := by decide +kernel
theorem dX11_fondAll_24 : decode cX11_fondAll 24 = .ok (.iadd, 1) := by decide +kernel
theorem dX11_fondAll_25 : decode cX11_fondAll 25 = .ok (.iaload, 1) := by decide +kernel
theorem dX11_fondAll_26 : decode cX11_fondAll 26 = .ok (.iadd, 1) := by decide +kernel
theorem dX11_fondAll_27 : decode cX11_fondAll 27 = .ok (.istore_n 2, 1) := by decide +kernel
theorem dX11_fondAll_28 : decode cX11_fondAll 28 = .ok (.iinc 3 1, 3) := by decide +kernel
theorem dX11_fondAll_31 : decode cX11_fondAll 31 = .ok (.goto (-27), 3) := by decide +kernel
theorem dX11_fondAll_34 : decode cX11_fondAll 34 = .ok (.iload_n 2, 1) := by decide +kernel
theorem dX11_fondAll_35 : decode cX11_fondAll 35 = .ok (.ireturn, 1) := by decide +kernel
theorem dX11_fallsNow_0 : decode cX11_fallsNow 0 = .ok (.aload_n 0, 1) := by decide +kernel
theorem dX11_fallsNow_1 : decode cX11_fallsNow 1 = .ok (.iconst 0, 1) := by decide +kernel
theorem dX11_fallsNow_2 : decode cX11_fallsNow 2 = .ok (.aload_n 0, 1) := by decide +kernel
theorem dX11_fallsNow_3 : decode cX11_fallsNow 3 = .ok (.getfield 93, 3) := by decide +kernel
theorem dX11_fallsNow_6 : decode cX11_fallsNow 6 = .ok (.iconst 0, 1) := by decide +kernel
theorem dX11_fallsNow_7 : decode cX11_fallsNow 7 = .ok (.iaload, 1) := by decide +kernel
theorem dX11_fallsNow_8 : decode cX11_fallsNow 8 = .ok (.bipush 24, 2) := by decide +kernel
theorem dX11_fallsNow_10 : decode cX11_fallsNow 10 = .ok (.irem, 1) := by decide +kernel
theorem dX11_fallsNow_11 : decode cX11_fallsNow 11 = .ok (.aload_n 0, 1) := by decide +kernel
theorem dX11_fallsNow_12 : decode cX11_fallsNow 12 = .ok (.iconst 0, 1) := by decide +kernel
theorem dX11_fallsNow_13 : decode cX11_fallsNow 13 = .ok (.iconst 0, 1) := by decide +kernel
theorem dX11_fallsNow_14 : decode cX11_fallsNow 14 = .ok (.invokevirtual 448, 3) := by decide +kernel
theorem dX11_fallsNow_17 : decode cX11_fallsNow 17 = .ok (.invokevirtual 455, 3) := by decide +kernel
theorem dX11_fallsNow_20 : decode cX11_fallsNow 20 = .ok (.return_, 1) := by decide +kernel
theorem dX11_where_0 : decode cX11_where 0 = .ok (.aload_n 0, 1) := by decide +kernel
theorem dX11_where_1 : decode cX11_where 1 = .ok (.iconst 0, 1) := by decide +kernel
theorem dX11_where_2 : decode cX11_where 2 = .ok (.putfield 163, 3) := by decide +kernel
theorem dX11_where_5 : decode cX11_where 5 = .ok (.aload_n 0, 1) := by decide +kernel
theorem dX11_where_6 : decode cX11_where 6 = .ok (.invokevirtual 469, 3) := by decide +kernel
theorem dX11_where_9 : decode cX11_where 9 = .ok (.iload_n 1, 1) := by decide +kernel
theorem dX11_where_10 : decode cX11_where 10 = .ok (.tableswitch 82 0 5 #[38, 45, 52, 57, 62, 75], 38) := by decide +kernel
theorem dX11_where_48 : decode cX11_where 48 = .ok (.aload_n 0, 1) := by decide +kernel
theorem dX11_where_49 : decode cX11_where 49 = .ok (.getfield 102, 3) := by decide +kernel
theorem dX11_where_52 : decode cX11_where 52 = .ok (.iconst 0, 1) := by decide +kernel
theorem dX11_where_53 : decode cX11_where 53 = .ok (.iaload, 1) := by decide +kernel
theorem dX11_where_54 : decode cX11_where 54 = .ok (.ireturn, 1) := by decide +kernel
theorem dX11_where_55 : decode cX11_where 55 = .ok (.aload_n 0, 1) := by decide +kernel
theorem dX11_where_56 : decode cX11_where 56 = .ok (.getfield 105, 3) := by decide +kernel
theorem dX11_where_59 : decode cX11_where 59 = .ok (.iconst 0, 1) := by decide +kernel
theorem dX11_where_60 : decode cX11_where 60 = .ok (.iaload, 1) := by decide +kernel
theorem dX11_where_61 : decode cX11_where 61 = .ok (.ireturn, 1) := by decide +kernel
theorem dX11_where_62 : decode cX11_where 62 = .ok (.aload_n 0, 1) := by decide +kernel
theorem dX11_where_63 : decode cX11_where 63 = .ok (.getfield 387, 3) := by decide +kernel
theorem dX11_where_66 : decode cX11_where 66 = .ok (.ireturn, 1) := by decide +kernel
theorem dX11_where_67 : decode cX11_where 67 = .ok (.aload_n 0, 1) := by decide +kernel
theorem dX11_where_68 : decode cX11_where 68 = .ok (.getfield 393, 3) := by decide +kernel
theorem dX11_where_71 : decode cX11_where 71 = .ok (.ireturn, 1) := by decide +kernel
theorem dX11_where_72 : decode cX11_where 72 = .ok (.aload_n 0, 1) := by decide +kernel
theorem dX11_where_73 : decode cX11_where 73 = .ok (.getfield 403, 3) := by decide +kernel
theorem dX11_where_76 : decode cX11_where 76 = .ok (.ifCond .eq 7, 3) := by decide +kernel
theorem dX11_where_79 : decode cX11_where 79 = .ok (.iconst 1, 1) := by decide +kernel
theorem dX11_where_80 : decode cX11_where 80 = .ok (.goto 4, 3) := by decide +kernel
theorem dX11_where_83 : decode cX11_where 83 = .ok (.iconst 0, 1) := by decide +kernel
theorem dX11_where_84 : decode cX11_where 84 = .ok (.ireturn, 1) := by decide +kernel
theorem dX11_where_85 : decode cX11_where 85 = .ok (.aload_n 0, 1) := by decide +kernel
theorem dX11_where_86 : decode cX11_where 86 = .ok (.getfield 108, 3) := by decide +kernel
theorem dX11_where_89 : decode cX11_where 89 = .ok (.iconst 0, 1) := by decide +kernel
theorem dX11_where_90 : decode cX11_where 90 = .ok (.iaload, 1) := by decide +kernel
theorem dX11_where_91 : decode cX11_where 91 = .ok (.ireturn, 1) := by decide +kernel
theorem dX11_where_92 : decode cX11_where 92 = .ok (.iconst (-1), 1) := by decide +kernel
theorem dX11_where_93 : decode cX11_where 93 = .ok (.ireturn, 1) := by decide +kernel
theorem dX11_doing_0 : decode cX11_doing 0 = .ok (.aload_n 0, 1) := by decide +kernel
theorem dX11_doing_1 : decode cX11_doing 1 = .ok (.aload_n 0, 1) := by decide +kernel
theorem dX11_doing_2 : decode cX11_doing 2 = .ok (.iload_n 1, 1) := by decide +kernel
theorem dX11_doing_3 : decode cX11_doing 3 = .ok (.invokevirtual 472, 3) := by decide +kernel
theorem dX11_doing_6 : decode cX11_doing 6 = .ok (.ifCond .ne 7, 3) := by decide +kernel
theorem dX11_doing_9 : decode cX11_doing 9 = .ok (.iconst 1, 1) := by decide +kernel
theorem dX11_doing_10 : decode cX11_doing 10 = .ok (.goto 17, 3) := by decide +kernel
theorem dX11_doing_13 : decode cX11_doing 13 = .ok (.iload_n 2, 1) := by decide +kernel
theorem dX11_doing_14 : decode cX11_doing 14 = .ok (.ifCond .lt 8, 3) := by decide +kernel
theorem dX11_doing_17 : decode cX11_doing 17 = .ok (.iload_n 2, 1) := by decide +kernel
theorem dX11_doing_18 : decode cX11_doing 18 = .ok (.iconst 4, 1) := by decide +kernel
theorem dX11_doing_19 : decode cX11_doing 19 = .ok (.if_icmp .le 7, 3) := by decide +kernel
theorem dX11_doing_22 : decode cX11_doing 22 = .ok (.iconst 2, 1) := by decide +kernel
theorem dX11_doing_23 : decode cX11_doing 23 = .ok (.goto 4, 3) := by decide +kernel
theorem dX11_doing_26 : decode cX11_doing 26 = .ok (.iconst 0, 1) := by decide +kernel
theorem dX11_doing_27 : decode cX11_doing 27 = .ok (.putfield 163, 3) := by decide +kernel
theorem dX11_doing_30 : decode cX11_doing 30 = .ok (.aload_n 0, 1) := by decide +kernel
theorem dX11_doing_31 : decode cX11_doing 31 = .ok (.getfield 163, 3) := by decide +kernel
theorem dX11_doing_34 : decode cX11_doing 34 = .ok (.ifCond .eq 5, 3) := by decide +kernel
theorem dX11_doing_37 : decode cX11_doing 37 = .ok (.iconst 0, 1) := by decide +kernel
theorem dX11_doing_38 : decode cX11_doing 38 = .ok (.ireturn, 1) := by decide +kernel
theorem dX11_doing_39 : decode cX11_doing 39 = .ok (.iload_n 2, 1) := by decide +kernel
theorem dX11_doing_40 : decode cX11_doing 40 = .ok (.tableswitch 60 0 3 #[32, 39, 46, 53], 32) := by decide +kernel
theorem dX11_doing_72 : decode cX11_doing 72 = .ok (.aload_n 0, 1) := by decide +kernel
theorem dX11_doing_73 : decode cX11_doing 73 = .ok (.getfield 49, 3) := by decide +kernel
theorem dX11_doing_76 : decode cX11_doing 76 = .ok (.iload_n 1, 1) := by decide +kernel
theorem dX11_doing_77 : decode cX11_doing 77 = .ok (.iaload, 1) := by decide +kernel
theorem dX11_doing_78 : decode cX11_doing 78 = .ok (.ireturn, 1) := by decide +kernel
theorem dX11_doing_79 : decode cX11_doing 79 = .ok (.aload_n 0, 1) := by decide +kernel
theorem dX11_doing_80 : decode cX11_doing 80 = .ok (.getfield 52, 3) := by decide +kernel
theorem dX11_doing_83 : decode cX11_doing 83 = .ok (.iload_n 1, 1) := by decide +kernel
theorem dX11_doing_84 : decode cX11_doing 84 = .ok (.iaload, 1) := by decide +kernel
theorem dX11_doing_85 : decode cX11_doing 85 = .ok (.ireturn, 1) := by decide +kernel
theorem dX11_doing_86 : decode cX11_doing 86 = .ok (.aload_n 0, 1) := by decide +kernel
theorem dX11_doing_87 : decode cX11_doing 87 = .ok (.getfield 55, 3) := by decide +kernel
theorem dX11_doing_90 : decode cX11_doing 90 = .ok (.iload_n 1, 1) := by decide +kernel
theorem dX11_doing_91 : decode cX11_doing 91 = .ok (.iaload, 1) := by decide +kernel
theorem dX11_doing_92 : decode cX11_doing 92 = .ok (.ireturn, 1) := by decide +kernel
theorem dX11_doing_93 : decode cX11_doing 93 = .ok (.aload_n 0, 1) := by decide +kernel
theorem dX11_doing_94 : decode cX11_doing 94 = .ok (.getfield 58, 3) := by decide +kernel
theorem dX11_doing_97 : decode cX11_doing 97 = .ok (.iload_n 1, 1) := by decide +kernel
theorem dX11_doing_98 : decode cX11_doing 98 = .ok (.iaload, 1) := by decide +kernel
theorem dX11_doing_99 : decode cX11_doing 99 = .ok (.ireturn, 1) := by decide +kernel
theorem dX11_doing_100 : decode cX11_doing 100 = .ok (.aload_n 0, 1) := by decide +kernel
theorem dX11_doing_101 : decode cX11_doing 101 = .ok (.getfield 117, 3) := by decide +kernel
theorem dX11_doing_104 : decode cX11_doing 104 = .ok (.iconst 0, 1) := by decide +kernel
theorem dX11_doing_105 : decode cX11_doing 105 = .ok (.iaload, 1) := by decide +kernel
theorem dX11_doing_106 : decode cX11_doing 106 = .ok (.iload_n 1, 1) := by decide +kernel
theorem dX11_doing_107 : decode cX11_doing 107 = .ok (.ishr, 1) := by decide +kernel
theorem dX11_doing_108 : decode cX11_doing 108 = .ok (.iconst 1, 1) := by decide +kernel
theorem dX11_doing_109 : decode cX11_doing 109 = .ok (.iand, 1) := by decide +kernel
theorem dX11_doing_110 : decode cX11_doing 110 = .ok (.ireturn, 1) := by decide +kernel
theorem dX11_engagedTo_0 : decode cX11_engagedTo 0 = .ok (.aload_n 0, 1) := by decide +kernel
theorem dX11_engagedTo_1 : decode cX11_engagedTo 1 = .ok (.getfield 120, 3) := by decide +kernel
theorem dX11_engagedTo_4 : decode cX11_engagedTo 4 = .ok (.iload_n 1, 1) := by decide +kernel
theorem dX11_engagedTo_5 : decode cX11_engagedTo 5 = .ok (.iaload, 1) := by decide +kernel
theorem dX11_engagedTo_6 : decode cX11_engagedTo 6 = .ok (.aload_n 0, 1) := by decide +kernel
theorem dX11_engagedTo_7 : decode cX11_engagedTo 7 = .ok (.getfield 123, 3) := by decide +kernel
theorem dX11_engagedTo_10 : decode cX11_engagedTo 10 = .ok (.iload_n 1, 1) := by decide +kernel
theorem dX11_engagedTo_11 : decode cX11_engagedTo 11 = .ok (.iaload, 1) := by decide +kernel
theorem dX11_engagedTo_12 : decode cX11_engagedTo 12 = .ok (.if_icmp .le 7, 3) := by decide +kernel
theorem dX11_engagedTo_15 : decode cX11_engagedTo 15 = .ok (.iconst 0, 1) := by decide +kernel
theorem dX11_engagedTo_16 : decode cX11_engagedTo 16 = .ok (.goto 24, 3) := by decide +kernel
theorem dX11_engagedTo_19 : decode cX11_engagedTo 19 = .ok (.aload_n 0, 1) := by decide +kernel
theorem dX11_engagedTo_20 : decode cX11_engagedTo 20 = .ok (.getfield 120, 3) := by decide +kernel
theorem dX11_engagedTo_23 : decode cX11_engagedTo 23 = .ok (.iload_n 1, 1) := by decide +kernel
theorem dX11_engagedTo_24 : decode cX11_engagedTo 24 = .ok (.iaload, 1) := by decide +kernel
theorem dX11_engagedTo_25 : decode cX11_engagedTo 25 = .ok (.aload_n 0, 1) := by decide +kernel
theorem dX11_engagedTo_26 : decode cX11_engagedTo 26 = .ok (.getfield 123, 3) := by decide +kernel
theorem dX11_engagedTo_29 : decode cX11_engagedTo 29 = .ok (.iload_n 1, 1) := by decide +kernel
theorem dX11_engagedTo_30 : decode cX11_engagedTo 30 = .ok (.iaload, 1) := by decide +kernel
theorem dX11_engagedTo_31 : decode cX11_engagedTo 31 = .ok (.if_icmp .ge 7, 3) := by decide +kernel
theorem dX11_engagedTo_34 : decode cX11_engagedTo 34 = .ok (.iconst 1, 1) := by decide +kernel
theorem dX11_engagedTo_35 : decode cX11_engagedTo 35 = .ok (.goto 5, 3) := by decide +kernel
theorem dX11_engagedTo_38 : decode cX11_engagedTo 38 = .ok (.bipush (-2), 2) := by decide +kernel
theorem dX11_engagedTo_40 : decode cX11_engagedTo 40 = .ok (.ireturn, 1) := by decide +kernel
theorem dX11_man_0 : decode cX11_man 0 = .ok (.aload_n 0, 1) := by decide +kernel
theorem dX11_man_1 : decode cX11_man 1 = .ok (.iconst 0, 1) := by decide +kernel
theorem dX11_man_2 : decode cX11_man 2 = .ok (.putfield 163, 3) := by decide +kernel
theorem dX11_man_5 : decode cX11_man 5 = .ok (.aload_n 0, 1) := by decide +kernel
theorem dX11_man_6 : decode cX11_man 6 = .ok (.iload_n 1, 1) := by decide +kernel
theorem dX11_man_7 : decode cX11_man 7 = .ok (.invokevirtual 475, 3) := by decide +kernel
theorem dX11_man_10 : decode cX11_man 10 = .ok (.ifCond .ne 5, 3) := by decide +kernel
theorem dX11_man_13 : decode cX11_man 13 = .ok (.iconst (-1), 1) := by decide +kernel
theorem dX11_man_14 : decode cX11_man 14 = .ok (.ireturn, 1) := by decide +kernel
theorem dX11_man_15 : decode cX11_man 15 = .ok (.iload_n 2, 1) := by decide +kernel
theorem dX11_man_16 : decode cX11_man 16 = .ok (.tableswitch 81 0 5 #[40, 47, 54, 61, 68, 75], 40) := by decide +kernel
theorem dX11_man_56 : decode cX11_man 56 = .ok (.aload_n 0, 1) := by decide +kernel
theorem dX11_man_57 : decode cX11_man 57 = .ok (.getfield 64, 3) := by decide +kernel
theorem dX11_man_60 : decode cX11_man 60 = .ok (.iload_n 1, 1) := by decide +kernel
theorem dX11_man_61 : decode cX11_man 61 = .ok (.iaload, 1) := by decide +kernel
theorem dX11_man_62 : decode cX11_man 62 = .ok (.ireturn, 1) := by decide +kernel
theorem dX11_man_63 : decode cX11_man 63 = .ok (.aload_n 0, 1) := by decide +kernel
theorem dX11_man_64 : decode cX11_man 64 = .ok (.getfield 67, 3) := by decide +kernel
theorem dX11_man_67 : decode cX11_man 67 = .ok (.iload_n 1, 1) := by decide +kernel
theorem dX11_man_68 : decode cX11_man 68 = .ok (.iaload, 1) := by decide +kernel
theorem dX11_man_69 : decode cX11_man 69 = .ok (.ireturn, 1) := by decide +kernel
theorem dX11_man_70 : decode cX11_man 70 = .ok (.aload_n 0, 1) := by decide +kernel
theorem dX11_man_71 : decode cX11_man 71 = .ok (.getfield 120, 3) := by decide +kernel
theorem dX11_man_74 : decode cX11_man 74 = .ok (.iload_n 1, 1) := by decide +kernel
theorem dX11_man_75 : decode cX11_man 75 = .ok (.iaload, 1) := by decide +kernel
theorem dX11_man_76 : decode cX11_man 76 = .ok (.ireturn, 1) := by decide +kernel
theorem dX11_man_77 : decode cX11_man 77 = .ok (.aload_n 0, 1) := by decide +kernel
theorem dX11_man_78 : decode cX11_man 78 = .ok (.getfield 123, 3) := by decide +kernel
theorem dX11_man_81 : decode cX11_man 81 = .ok (.iload_n 1, 1) := by decide +kernel
theorem dX11_man_82 : decode cX11_man 82 = .ok (.iaload, 1) := by decide +kernel
theorem dX11_man_83 : decode cX11_man 83 = .ok (.ireturn, 1) := by decide +kernel
theorem dX11_man_84 : decode cX11_man 84 = .ok (.aload_n 0, 1) := by decide +kernel
theorem dX11_man_85 : decode cX11_man 85 = .ok (.getfield 126, 3) := by decide +kernel
theorem dX11_man_88 : decode cX11_man 88 = .ok (.iload_n 1, 1) := by decide +kernel
theorem dX11_man_89 : decode cX11_man 89 = .ok (.iaload, 1) := by decide +kernel
theorem dX11_man_90 : decode cX11_man 90 = .ok (.ireturn, 1) := by decide +kernel
theorem dX11_man_91 : decode cX11_man 91 = .ok (.aload_n 0, 1) := by decide +kernel
theorem dX11_man_92 : decode cX11_man 92 = .ok (.iload_n 1, 1) := by decide +kernel
theorem dX11_man_93 : decode cX11_man 93 = .ok (.invokevirtual 478, 3) := by decide +kernel
theorem dX11_man_96 : decode cX11_man 96 = .ok (.ireturn, 1) := by decide +kernel
theorem dX11_man_97 : decode cX11_man 97 = .ok (.iconst (-1), 1) := by decide +kernel
theorem dX11_man_98 : decode cX11_man 98 = .ok (.ireturn, 1) := by decide +kernel
theorem dX11_lamp_0 : decode cX11_lamp 0 = .ok (.aload_n 0, 1) := by decide +kernel
theorem dX11_lamp_1 : decode cX11_lamp 1 = .ok (.iconst 0, 1) := by decide +kernel
theorem dX11_lamp_2 : decode cX11_lamp 2 = .ok (.putfield 163, 3) := by decide +kernel
theorem dX11_lamp_5 : decode cX11_lamp 5 = .ok (.aload_n 0, 1) := by decide +kernel
theorem dX11_lamp_6 : decode cX11_lamp 6 = .ok (.iload_n 1, 1) := by decide +kernel
theorem dX11_lamp_7 : decode cX11_lamp 7 = .ok (.invokevirtual 481, 3) := by decide +kernel
theorem dX11_lamp_10 : decode cX11_lamp 10 = .ok (.ifCond .ne 5, 3) := by decide +kernel
theorem dX11_lamp_13 : decode cX11_lamp 13 = .ok (.iconst (-1), 1) := by decide +kernel
theorem dX11_lamp_14 : decode cX11_lamp 14 = .ok (.ireturn, 1) := by decide +kernel
theorem dX11_lamp_15 : decode cX11_lamp 15 = .ok (.iload_n 2, 1) := by decide +kernel
theorem dX11_lamp_16 : decode cX11_lamp 16 = .ok (.tableswitch 64 0 3 #[32, 39, 46, 53], 32) := by decide +kernel
theorem dX11_lamp_48 : decode cX11_lamp 48 = .ok (.aload_n 0, 1) := by decide +kernel
theorem dX11_lamp_49 : decode cX11_lamp 49 = .ok (.getfield 31, 3) := by decide +kernel
theorem dX11_lamp_52 : decode cX11_lamp 52 = .ok (.iload_n 1, 1) := by decide +kernel
theorem dX11_lamp_53 : decode cX11_lamp 53 = .ok (.iaload, 1) := by decide +kernel
theorem dX11_lamp_54 : decode cX11_lamp 54 = .ok (.ireturn, 1) := by decide +kernel
theorem dX11_lamp_55 : decode cX11_lamp 55 = .ok (.aload_n 0, 1) := by decide +kernel
theorem dX11_lamp_56 : decode cX11_lamp 56 = .ok (.getfield 34, 3) := by decide +kernel
theorem dX11_lamp_59 : decode cX11_lamp 59 = .ok (.iload_n 1, 1) := by decide +kernel
theorem dX11_lamp_60 : decode cX11_lamp 60 = .ok (.iaload, 1) := by decide +kernel
theorem dX11_lamp_61 : decode cX11_lamp 61 = .ok (.ireturn, 1) := by decide +kernel
theorem dX11_lamp_62 : decode cX11_lamp 62 = .ok (.aload_n 0, 1) := by decide +kernel
theorem dX11_lamp_63 : decode cX11_lamp 63 = .ok (.getfield 37, 3) := by decide +kernel
theorem dX11_lamp_66 : decode cX11_lamp 66 = .ok (.iload_n 1, 1) := by decide +kernel
theorem dX11_lamp_67 : decode cX11_lamp 67 = .ok (.iaload, 1) := by decide +kernel
theorem dX11_lamp_68 : decode cX11_lamp 68 = .ok (.ireturn, 1) := by decide +kernel
theorem dX11_lamp_69 : decode cX11_lamp 69 = .ok (.aload_n 0, 1) := by decide +kernel
theorem dX11_lamp_70 : decode cX11_lamp 70 = .ok (.getfield 114, 3) := by decide +kernel
theorem dX11_lamp_73 : decode cX11_lamp 73 = .ok (.iconst 0, 1) := by decide +kernel
theorem dX11_lamp_74 : decode cX11_lamp 74 = .ok (.iaload, 1) := by decide +kernel
theorem dX11_lamp_75 : decode cX11_lamp 75 = .ok (.iload_n 1, 1) := by decide +kernel
theorem dX11_lamp_76 : decode cX11_lamp 76 = .ok (.ishr, 1) := by decide +kernel
theorem dX11_lamp_77 : decode cX11_lamp 77 = .ok (.iconst 1, 1) := by decide +kernel
theorem dX11_lamp_78 : decode cX11_lamp 78 = .ok (.iand, 1) := by decide +kernel
theorem dX11_lamp_79 : decode cX11_lamp 79 = .ok (.ireturn, 1) := by decide +kernel
theorem dX11_lamp_80 : decode cX11_lamp 80 = .ok (.iconst (-1), 1) := by decide +kernel
theorem dX11_lamp_81 : decode cX11_lamp 81 = .ok (.ireturn, 1) := by decide +kernel
theorem dX11_wall_0 : decode cX11_wall 0 = .ok (.aload_n 0, 1) := by decide +kernel
theorem dX11_wall_1 : decode cX11_wall 1 = .ok (.iconst 0, 1) := by decide +kernel
theorem dX11_wall_2 : decode cX11_wall 2 = .ok (.putfield 163, 3) := by decide +kernel
theorem dX11_wall_5 : decode cX11_wall 5 = .ok (.aload_n 0, 1) := by decide +kernel
theorem dX11_wall_6 : decode cX11_wall 6 = .ok (.iload_n 1, 1) := by decide +kernel
theorem dX11_wall_7 : decode cX11_wall 7 = .ok (.iload_n 2, 1) := by decide +kernel
theorem dX11_wall_8 : decode cX11_wall 8 = .ok (.invokevirtual 399, 3) := by decide +kernel
theorem dX11_wall_11 : decode cX11_wall 11 = .ok (.ifCond .ne 7, 3) := by decide +kernel
theorem dX11_wall_14 : decode cX11_wall 14 = .ok (.iconst (-1), 1) := by decide +kernel
theorem dX11_wall_15 : decode cX11_wall 15 = .ok (.goto 17, 3) := by decide +kernel
theorem dX11_wall_18 : decode cX11_wall 18 = .ok (.aload_n 0, 1) := by decide +kernel
theorem dX11_wall_19 : decode cX11_wall 19 = .ok (.iload_n 1, 1) := by decide +kernel
theorem dX11_wall_20 : decode cX11_wall 20 = .ok (.iload_n 2, 1) := by decide +kernel
theorem dX11_wall_21 : decode cX11_wall 21 = .ok (.invokevirtual 430, 3) := by decide +kernel
theorem dX11_wall_24 : decode cX11_wall 24 = .ok (.ifCond .eq 7, 3) := by decide +kernel
theorem dX11_wall_27 : decode cX11_wall 27 = .ok (.iconst 1, 1) := by decide +kernel
theorem dX11_wall_28 : decode cX11_wall 28 = .ok (.goto 4, 3) := by decide +kernel
theorem dX11_wall_31 : decode cX11_wall 31 = .ok (.iconst 0, 1) := by decide +kernel
theorem dX11_wall_32 : decode cX11_wall 32 = .ok (.ireturn, 1) := by decide +kernel
theorem dX11_law_0 : decode cX11_law 0 = .ok (.aload_n 0, 1) := by decide +kernel
theorem dX11_law_1 : decode cX11_law 1 = .ok (.iconst 0, 1) := by decide +kernel
theorem dX11_law_2 : decode cX11_law 2 = .ok (.putfield 163, 3) := by decide +kernel
theorem dX11_law_5 : decode cX11_law 5 = .ok (.iload_n 1, 1) := by decide +kernel
theorem dX11_law_6 : decode cX11_law 6 = .ok (.ifCond .lt 29, 3) := by decide +kernel
theorem dX11_law_9 : decode cX11_law 9 = .ok (.iload_n 1, 1) := by decide +kernel
theorem dX11_law_10 : decode cX11_law 10 = .ok (.iconst 2, 1) := by decide +kernel
theorem dX11_law_11 : decode cX11_law 11 = .ok (.if_icmp .gt 24, 3) := by decide +kernel
theorem dX11_law_14 : decode cX11_law 14 = .ok (.aload_n 0, 1) := by decide +kernel
theorem dX11_law_15 : decode cX11_law 15 = .ok (.iload_n 1, 1) := by decide +kernel
theorem dX11_law_16 : decode cX11_law 16 = .ok (.invokevirtual 364, 3) := by decide +kernel
theorem dX11_law_19 : decode cX11_law 19 = .ok (.ifCond .eq 16, 3) := by decide +kernel
theorem dX11_law_22 : decode cX11_law 22 = .ok (.iload_n 1, 1) := by decide +kernel
theorem dX11_law_23 : decode cX11_law 23 = .ok (.iconst 1, 1) := by decide +kernel
theorem dX11_law_24 : decode cX11_law 24 = .ok (.if_icmp .ne 15, 3) := by decide +kernel
theorem dX11_law_27 : decode cX11_law 27 = .ok (.aload_n 0, 1) := by decide +kernel
theorem dX11_law_28 : decode cX11_law 28 = .ok (.iload_n 2, 1) := by decide +kernel
theorem dX11_law_29 : decode cX11_law 29 = .ok (.invokevirtual 475, 3) := by decide +kernel
theorem dX11_law_32 : decode cX11_law 32 = .ok (.ifCond .ne 7, 3) := by decide +kernel
theorem dX11_law_35 : decode cX11_law 35 = .ok (.ldc2_w 486, 3) := by decide +kernel
theorem dX11_law_38 : decode cX11_law 38 = .ok (.lreturn, 1) := by decide +kernel
theorem dX11_law_39 : decode cX11_law 39 = .ok (.aload_n 0, 1) := by decide +kernel
theorem dX11_law_40 : decode cX11_law 40 = .ok (.getfield 93, 3) := by decide +kernel
theorem dX11_law_43 : decode cX11_law 43 = .ok (.iconst 0, 1) := by decide +kernel
theorem dX11_law_44 : decode cX11_law 44 = .ok (.iaload, 1) := by decide +kernel
theorem dX11_law_45 : decode cX11_law 45 = .ok (.bipush 24, 2) := by decide +kernel
theorem dX11_law_47 : decode cX11_law 47 = .ok (.irem, 1) := by decide +kernel
theorem dX11_law_48 : decode cX11_law 48 = .ok (.istore_n 3, 1) := by decide +kernel
theorem dX11_law_49 : decode cX11_law 49 = .ok (.iload_n 1, 1) := by decide +kernel
theorem dX11_law_50 : decode cX11_law 50 = .ok (.iconst 1, 1) := by decide +kernel
theorem dX11_law_51 : decode cX11_law 51 = .ok (.if_icmp .ne 33, 3) := by decide +kernel
theorem dX11_law_54 : decode cX11_law 54 = .ok (.aload_n 0, 1) := by decide +kernel
theorem dX11_law_55 : decode cX11_law 55 = .ok (.iconst 0, 1) := by decide +kernel
theorem dX11_law_56 : decode cX11_law 56 = .ok (.iconst 0, 1) := by decide +kernel
theorem dX11_law_57 : decode cX11_law 57 = .ok (.aload_n 0, 1) := by decide +kernel
theorem dX11_law_58 : decode cX11_law 58 = .ok (.getfield 120, 3) := by decide +kernel
theorem dX11_law_61 : decode cX11_law 61 = .ok (.iload_n 2, 1) := by decide +kernel
theorem dX11_law_62 : decode cX11_law 62 = .ok (.iaload, 1) := by decide +kernel
theorem dX11_law_63 : decode cX11_law 63 = .ok (.sipush 999, 3) := by decide +kernel
theorem dX11_law_66 : decode cX11_law 66 = .ok (.aload_n 0, 1) := by decide +kernel
theorem dX11_law_67 : decode cX11_law 67 = .ok (.getfield 123, 3) := by decide +kernel
theorem dX11_law_70 : decode cX11_law 70 = .ok (.iload_n 2, 1) := by decide +kernel
theorem dX11_law_71 : decode cX11_law 71 = .ok (.iaload, 1) := by decide +kernel
theorem dX11_law_72 : decode cX11_law 72 = .ok (.iconst 1, 1) := by decide +kernel
theorem dX11_law_73 : decode cX11_law 73 = .ok (.iadd, 1) := by decide +kernel
theorem dX11_law_74 : decode cX11_law 74 = .ok (.invokestatic 433, 3) := by decide +kernel
theorem dX11_law_77 : decode cX11_law 77 = .ok (.iload_n 3, 1) := by decide +kernel
theorem dX11_law_78 : decode cX11_law 78 = .ok (.invokevirtual 379, 3) := by decide +kernel
theorem dX11_law_81 : decode cX11_law 81 = .ok (.goto 31, 3) := by decide +kernel
theorem dX11_law_84 : decode cX11_law 84 = .ok (.aload_n 0, 1) := by decide +kernel
theorem dX11_law_85 : decode cX11_law 85 = .ok (.iconst 0, 1) := by decide +kernel
theorem dX11_law_86 : decode cX11_law 86 = .ok (.iload_n 1, 1) := by decide +kernel
theorem dX11_law_87 : decode cX11_law 87 = .ok (.ifCond .ne 18, 3) := by decide +kernel
theorem dX11_law_90 : decode cX11_law 90 = .ok (.aload_n 0, 1) := by decide +kernel
theorem dX11_law_91 : decode cX11_law 91 = .ok (.iconst 0, 1) := by decide +kernel
theorem dX11_law_92 : decode cX11_law 92 = .ok (.iload_n 3, 1) := by decide +kernel
theorem dX11_law_93 : decode cX11_law 93 = .ok (.aload_n 0, 1) := by decide +kernel
theorem dX11_law_94 : decode cX11_law 94 = .ok (.iconst 0, 1) := by decide +kernel
theorem dX11_law_95 : decode cX11_law 95 = .ok (.iconst 0, 1) := by decide +kernel
theorem dX11_law_96 : decode cX11_law 96 = .ok (.invokevirtual 448, 3) := by decide +kernel
theorem dX11_law_99 : decode cX11_law 99 = .ok (.invokevirtual 418, 3) := by decide +kernel
theorem dX11_law_102 : decode cX11_law 102 = .ok (.goto 4, 3) := by decide +kernel
theorem dX11_law_105 : decode cX11_law 105 = .ok (.iconst 0, 1) := by decide +kernel
theorem dX11_law_106 : decode cX11_law 106 = .ok (.iconst 0, 1) := by decide +kernel
theorem dX11_law_107 : decode cX11_law 107 = .ok (.iconst 0, 1) := by decide +kernel
theorem dX11_law_108 : decode cX11_law 108 = .ok (.iload_n 3, 1) := by decide +kernel
theorem dX11_law_109 : decode cX11_law 109 = .ok (.invokevirtual 379, 3) := by decide +kernel
theorem dX11_law_112 : decode cX11_law 112 = .ok (.aload_n 0, 1) := by decide +kernel
theorem dX11_law_113 : decode cX11_law 113 = .ok (.iload_n 1, 1) := by decide +kernel
theorem dX11_law_114 : decode cX11_law 114 = .ok (.invokevirtual 367, 3) := by decide +kernel
theorem dX11_law_117 : decode cX11_law 117 = .ok (.ifCond .eq 12, 3) := by decide +kernel
theorem dX11_law_120 : decode cX11_law 120 = .ok (.aload_n 0, 1) := by decide +kernel
theorem dX11_law_121 : decode cX11_law 121 = .ok (.getfield 90, 3) := by decide +kernel
theorem dX11_law_124 : decode cX11_law 124 = .ok (.iconst 0, 1) := by decide +kernel
theorem dX11_law_125 : decode cX11_law 125 = .ok (.laload, 1) := by decide +kernel
theorem dX11_law_126 : decode cX11_law 126 = .ok (.goto 6, 3) := by decide +kernel
theorem dX11_law_129 : decode cX11_law 129 = .ok (.ldc2_w 486, 3) := by decide +kernel
theorem dX11_law_132 : decode cX11_law 132 = .ok (.lreturn, 1) := by decide +kernel
theorem dX11_keepNow_0 : decode cX11_keepNow 0 = .ok (.aload_n 0, 1) := by decide +kernel
theorem dX11_keepNow_1 : decode cX11_keepNow 1 = .ok (.getfield 335, 3) := by decide +kernel
theorem dX11_keepNow_4 : decode cX11_keepNow 4 = .ok (.bipush 20, 2) := by decide +kernel
theorem dX11_keepNow_6 : decode cX11_keepNow 6 = .ok (.if_icmp .ne 39, 3) := by decide +kernel
theorem dX11_keepNow_9 : decode cX11_keepNow 9 = .ok (.iconst 1, 1) := by decide +kernel
theorem dX11_keepNow_10 : decode cX11_keepNow 10 = .ok (.istore_n 1, 1) := by decide +kernel
theorem dX11_keepNow_11 : decode cX11_keepNow 11 = .ok (.iload_n 1, 1) := by decide +kernel
theorem dX11_keepNow_12 : decode cX11_keepNow 12 = .ok (.bipush 20, 2) := by decide +kernel
theorem dX11_keepNow_14 : decode cX11_keepNow 14 = .ok (.if_icmp .ge 21, 3) := by decide +kernel
theorem dX11_keepNow_17 : decode cX11_keepNow 17 = .ok (.aload_n 0, 1) := by decide +kernel
theorem dX11_keepNow_18 : decode cX11_keepNow 18 = .ok (.iconst 3, 1) := by decide +kernel
theorem dX11_keepNow_19 : decode cX11_keepNow 19 = .ok (.iload_n 1, 1) := by decide +kernel
theorem dX11_keepNow_20 : decode cX11_keepNow 20 = .ok (.iadd, 1) := by decide +kernel
theorem dX11_keepNow_21 : decode cX11_keepNow 21 = .ok (.iconst 1, 1) := by decide +kernel
theorem dX11_keepNow_22 : decode cX11_keepNow 22 = .ok (.isub, 1) := by decide +kernel
theorem dX11_keepNow_23 : decode cX11_keepNow 23 = .ok (.iconst 3, 1) := by decide +kernel
theorem dX11_keepNow_24 : decode cX11_keepNow 24 = .ok (.iload_n 1, 1) := by decide +kernel
theorem dX11_keepNow_25 : decode cX11_keepNow 25 = .ok (.iadd, 1) := by decide +kernel
theorem dX11_keepNow_26 : decode cX11_keepNow 26 = .ok (.invokevirtual 488, 3) := by decide +kernel
theorem dX11_keepNow_29 : decode cX11_keepNow 29 = .ok (.iinc 1 1, 3) := by decide +kernel
theorem dX11_keepNow_32 : decode cX11_keepNow 32 = .ok (.goto (-21), 3) := by decide +kernel
theorem dX11_keepNow_35 : decode cX11_keepNow 35 = .ok (.aload_n 0, 1) := by decide +kernel
theorem dX11_keepNow_36 : decode cX11_keepNow 36 = .ok (.dup, 1) := by decide +kernel
theorem dX11_keepNow_37 : decode cX11_keepNow 37 = .ok (.getfield 335, 3) := by decide +kernel
theorem dX11_keepNow_40 : decode cX11_keepNow 40 = .ok (.iconst 1, 1) := by decide +kernel
theorem dX11_keepNow_41 : decode cX11_keepNow 41 = .ok (.isub, 1) := by decide +kernel
theorem dX11_keepNow_42 : decode cX11_keepNow 42 = .ok (.putfield 335, 3) := by decide +kernel
theorem dX11_keepNow_45 : decode cX11_keepNow 45 = .ok (.aload_n 0, 1) := by decide +kernel
theorem dX11_keepNow_46 : decode cX11_keepNow 46 = .ok (.iconst 3, 1) := by decide +kernel
theorem dX11_keepNow_47 : decode cX11_keepNow 47 = .ok (.aload_n 0, 1) := by decide +kernel
theorem dX11_keepNow_48 : decode cX11_keepNow 48 = .ok (.getfield 335, 3) := by decide +kernel
theorem dX11_keepNow_51 : decode cX11_keepNow 51 = .ok (.iadd, 1) := by decide +kernel
theorem dX11_keepNow_52 : decode cX11_keepNow 52 = .ok (.iconst 0, 1) := by decide +kernel
theorem dX11_keepNow_53 : decode cX11_keepNow 53 = .ok (.invokevirtual 488, 3) := by decide +kernel
theorem dX11_keepNow_56 : decode cX11_keepNow 56 = .ok (.aload_n 0, 1) := by decide +kernel
theorem dX11_keepNow_57 : decode cX11_keepNow 57 = .ok (.dup, 1) := by decide +kernel
theorem dX11_keepNow_58 : decode cX11_keepNow 58 = .ok (.getfield 335, 3) := by decide +kernel
theorem dX11_keepNow_61 : decode cX11_keepNow 61 = .ok (.iconst 1, 1) := by decide +kernel
theorem dX11_keepNow_62 : decode cX11_keepNow 62 = .ok (.iadd, 1) := by decide +kernel
theorem dX11_keepNow_63 : decode cX11_keepNow 63 = .ok (.putfield 335, 3) := by decide +kernel
theorem dX11_keepNow_66 : decode cX11_keepNow 66 = .ok (.return_, 1) := by decide +kernel
theorem dX11_step_0 : decode cX11_step 0 = .ok (.aload_n 0, 1) := by decide +kernel
theorem dX11_step_1 : decode cX11_step 1 = .ok (.iconst 0, 1) := by decide +kernel
theorem dX11_step_2 : decode cX11_step 2 = .ok (.putfield 163, 3) := by decide +kernel
theorem dX11_step_5 : decode cX11_step 5 = .ok (.iload_n 1, 1) := by decide +kernel
theorem dX11_step_6 : decode cX11_step 6 = .ok (.ifCond .lt 8, 3) := by decide +kernel
theorem dX11_step_9 : decode cX11_step 9 = .ok (.iload_n 1, 1) := by decide +kernel
theorem dX11_step_10 : decode cX11_step 10 = .ok (.iconst 3, 1) := by decide +kernel
theorem dX11_step_11 : decode cX11_step 11 = .ok (.if_icmp .le 5, 3) := by decide +kernel
theorem dX11_step_14 : decode cX11_step 14 = .ok (.iconst (-1), 1) := by decide +kernel
theorem dX11_step_15 : decode cX11_step 15 = .ok (.ireturn, 1) := by decide +kernel
theorem dX11_step_16 : decode cX11_step 16 = .ok (.aload_n 0, 1) := by decide +kernel
theorem dX11_step_17 : decode cX11_step 17 = .ok (.iconst 0, 1) := by decide +kernel
theorem dX11_step_18 : decode cX11_step 18 = .ok (.iload_n 1, 1) := by decide +kernel
theorem dX11_step_19 : decode cX11_step 19 = .ok (.invokevirtual 435, 3) := by decide +kernel
theorem dX11_step_22 : decode cX11_step 22 = .ok (.ifCond .ne 6, 3) := by decide +kernel
theorem dX11_step_25 : decode cX11_step 25 = .ok (.bipush (-2), 2) := by decide +kernel
theorem dX11_step_27 : decode cX11_step 27 = .ok (.ireturn, 1) := by decide +kernel
theorem dX11_step_28 : decode cX11_step 28 = .ok (.aload_n 0, 1) := by decide +kernel
theorem dX11_step_29 : decode cX11_step 29 = .ok (.invokevirtual 491, 3) := by decide +kernel
theorem dX11_step_32 : decode cX11_step 32 = .ok (.aload_n 0, 1) := by decide +kernel
theorem dX11_step_33 : decode cX11_step 33 = .ok (.iconst 0, 1) := by decide +kernel
theorem dX11_step_34 : decode cX11_step 34 = .ok (.iload_n 1, 1) := by decide +kernel
theorem dX11_step_35 : decode cX11_step 35 = .ok (.invokevirtual 438, 3) := by decide +kernel
theorem dX11_step_38 : decode cX11_step 38 = .ok (.aload_n 0, 1) := by decide +kernel
theorem dX11_step_39 : decode cX11_step 39 = .ok (.getfield 108, 3) := by decide +kernel
theorem dX11_step_42 : decode cX11_step 42 = .ok (.iconst 0, 1) := by decide +kernel
theorem dX11_step_43 : decode cX11_step 43 = .ok (.iaload, 1) := by decide +kernel
theorem dX11_step_44 : decode cX11_step 44 = .ok (.ireturn, 1) := by decide +kernel
theorem dX11_light_0 : decode cX11_light 0 = .ok (.aload_n 0, 1) := by decide +kernel
theorem dX11_light_1 : decode cX11_light 1 = .ok (.iconst 0, 1) := by decide +kernel
theorem dX11_light_2 : decode cX11_light 2 = .ok (.putfield 163, 3) := by decide +kernel
theorem dX11_light_5 : decode cX11_light 5 = .ok (.aload_n 0, 1) := by decide +kernel
theorem dX11_light_6 : decode cX11_light 6 = .ok (.iload_n 1, 1) := by decide +kernel
theorem dX11_light_7 : decode cX11_light 7 = .ok (.invokevirtual 481, 3) := by decide +kernel
theorem dX11_light_10 : decode cX11_light 10 = .ok (.ifCond .eq 26, 3) := by decide +kernel
theorem dX11_light_13 : decode cX11_light 13 = .ok (.aload_n 0, 1) := by decide +kernel
theorem dX11_light_14 : decode cX11_light 14 = .ok (.getfield 114, 3) := by decide +kernel
theorem dX11_light_17 : decode cX11_light 17 = .ok (.iconst 0, 1) := by decide +kernel
theorem dX11_light_18 : decode cX11_light 18 = .ok (.iaload, 1) := by decide +kernel
theorem dX11_light_19 : decode cX11_light 19 = .ok (.iload_n 1, 1) := by decide +kernel
theorem dX11_light_20 : decode cX11_light 20 = .ok (.ishr, 1) := by decide +kernel
theorem dX11_light_21 : decode cX11_light 21 = .ok (.iconst 1, 1) := by decide +kernel
theorem dX11_light_22 : decode cX11_light 22 = .ok (.iand, 1) := by decide +kernel
theorem dX11_light_23 : decode cX11_light 23 = .ok (.iconst 1, 1) := by decide +kernel
theorem dX11_light_24 : decode cX11_light 24 = .ok (.if_icmp .ne 7, 3) := by decide +kernel
theorem dX11_light_27 : decode cX11_light 27 = .ok (.iconst 1, 1) := by decide +kernel
theorem dX11_light_28 : decode cX11_light 28 = .ok (.goto 4, 3) := by decide +kernel
theorem dX11_light_31 : decode cX11_light 31 = .ok (.iconst 0, 1) := by decide +kernel
theorem dX11_light_32 : decode cX11_light 32 = .ok (.iload_n 2, 1) := by decide +kernel
theorem dX11_light_33 : decode cX11_light 33 = .ok (.if_icmp .ne 5, 3) := by decide +kernel
theorem dX11_light_36 : decode cX11_light 36 = .ok (.iconst 0, 1) := by decide +kernel
theorem dX11_light_37 : decode cX11_light 37 = .ok (.ireturn, 1) := by decide +kernel
theorem dX11_light_38 : decode cX11_light 38 = .ok (.aload_n 0, 1) := by decide +kernel
theorem dX11_light_39 : decode cX11_light 39 = .ok (.invokevirtual 491, 3) := by decide +kernel
theorem dX11_light_42 : decode cX11_light 42 = .ok (.aload_n 0, 1) := by decide +kernel
theorem dX11_light_43 : decode cX11_light 43 = .ok (.getfield 114, 3) := by decide +kernel
theorem dX11_light_46 : decode cX11_light 46 = .ok (.iconst 0, 1) := by decide +kernel
theorem dX11_light_47 : decode cX11_light 47 = .ok (.dup2, 1) := by decide +kernel
theorem dX11_light_48 : decode cX11_light 48 = .ok (.iaload, 1) := by decide +kernel
theorem dX11_light_49 : decode cX11_light 49 = .ok (.iconst 1, 1) := by decide +kernel
theorem dX11_light_50 : decode cX11_light 50 = .ok (.iload_n 1, 1) := by decide +kernel
theorem dX11_light_51 : decode cX11_light 51 = .ok (.ishl, 1) := by decide +kernel
theorem dX11_light_52 : decode cX11_light 52 = .ok (.ixor, 1) := by decide +kernel
theorem dX11_light_53 : decode cX11_light 53 = .ok (.iastore, 1) := by decide +kernel
theorem dX11_light_54 : decode cX11_light 54 = .ok (.iconst 1, 1) := by decide +kernel
theorem dX11_light_55 : decode cX11_light 55 = .ok (.ireturn, 1) := by decide +kernel
theorem dX11_again_0 : decode cX11_again 0 = .ok (.aload_n 0, 1) := by decide +kernel
theorem dX11_again_1 : decode cX11_again 1 = .ok (.iconst 0, 1) := by decide +kernel
theorem dX11_again_2 : decode cX11_again 2 = .ok (.putfield 163, 3) := by decide +kernel
theorem dX11_again_5 : decode cX11_again 5 = .ok (.aload_n 0, 1) := by decide +kernel
theorem dX11_again_6 : decode cX11_again 6 = .ok (.iload_n 1, 1) := by decide +kernel
theorem dX11_again_7 : decode cX11_again 7 = .ok (.invokevirtual 472, 3) := by decide +kernel
theorem dX11_again_10 : decode cX11_again 10 = .ok (.ifCond .eq 16, 3) := by decide +kernel
theorem dX11_again_13 : decode cX11_again 13 = .ok (.aload_n 0, 1) := by decide +kernel
theorem dX11_again_14 : decode cX11_again 14 = .ok (.getfield 117, 3) := by decide +kernel
theorem dX11_again_17 : decode cX11_again 17 = .ok (.iconst 0, 1) := by decide +kernel
theorem dX11_again_18 : decode cX11_again 18 = .ok (.iaload, 1) := by decide +kernel
theorem dX11_again_19 : decode cX11_again 19 = .ok (.iload_n 1, 1) := by decide +kernel
theorem dX11_again_20 : decode cX11_again 20 = .ok (.ishr, 1) := by decide +kernel
theorem dX11_again_21 : decode cX11_again 21 = .ok (.iconst 1, 1) := by decide +kernel
theorem dX11_again_22 : decode cX11_again 22 = .ok (.iand, 1) := by decide +kernel
theorem dX11_again_23 : decode cX11_again 23 = .ok (.ifCond .ne 5, 3) := by decide +kernel
theorem dX11_again_26 : decode cX11_again 26 = .ok (.iconst 0, 1) := by decide +kernel
theorem dX11_again_27 : decode cX11_again 27 = .ok (.ireturn, 1) := by decide +kernel
theorem dX11_again_28 : decode cX11_again 28 = .ok (.aload_n 0, 1) := by decide +kernel
theorem dX11_again_29 : decode cX11_again 29 = .ok (.invokevirtual 491, 3) := by decide +kernel
theorem dX11_again_32 : decode cX11_again 32 = .ok (.aload_n 0, 1) := by decide +kernel
theorem dX11_again_33 : decode cX11_again 33 = .ok (.getfield 117, 3) := by decide +kernel
theorem dX11_again_36 : decode cX11_again 36 = .ok (.iconst 0, 1) := by decide +kernel
theorem dX11_again_37 : decode cX11_again 37 = .ok (.dup2, 1) := by decide +kernel
theorem dX11_again_38 : decode cX11_again 38 = .ok (.iaload, 1) := by decide +kernel
theorem dX11_again_39 : decode cX11_again 39 = .ok (.iconst 1, 1) := by decide +kernel
theorem dX11_again_40 : decode cX11_again 40 = .ok (.iload_n 1, 1) := by decide +kernel
theorem dX11_again_41 : decode cX11_again 41 = .ok (.ishl, 1) := by decide +kernel
theorem dX11_again_42 : decode cX11_again 42 = .ok (.iconst (-1), 1) := by decide +kernel
theorem dX11_again_43 : decode cX11_again 43 = .ok (.ixor, 1) := by decide +kernel
theorem dX11_again_44 : decode cX11_again 44 = .ok (.iand, 1) := by decide +kernel
theorem dX11_again_45 : decode cX11_again 45 = .ok (.iastore, 1) := by decide +kernel
theorem dX11_again_46 : decode cX11_again 46 = .ok (.iconst 1, 1) := by decide +kernel
theorem dX11_again_47 : decode cX11_again 47 = .ok (.ireturn, 1) := by decide +kernel
theorem dX11_go_0 : decode cX11_go 0 = .ok (.aload_n 0, 1) := by decide +kernel
theorem dX11_go_1 : decode cX11_go 1 = .ok (.iconst 0, 1) := by decide +kernel
theorem dX11_go_2 : decode cX11_go 2 = .ok (.putfield 163, 3) := by decide +kernel
theorem dX11_go_5 : decode cX11_go 5 = .ok (.iload_n 1, 1) := by decide +kernel
theorem dX11_go_6 : decode cX11_go 6 = .ok (.ifCond .lt 23, 3) := by decide +kernel
theorem dX11_go_9 : decode cX11_go 9 = .ok (.iload_n 1, 1) := by decide +kernel
theorem dX11_go_10 : decode cX11_go 10 = .ok (.bipush 99, 2) := by decide +kernel
theorem dX11_go_12 : decode cX11_go 12 = .ok (.if_icmp .gt 17, 3) := by decide +kernel
theorem dX11_go_15 : decode cX11_go 15 = .ok (.aload_n 0, 1) := by decide +kernel
theorem dX11_go_16 : decode cX11_go 16 = .ok (.getfield 93, 3) := by decide +kernel
theorem dX11_go_19 : decode cX11_go 19 = .ok (.iconst 0, 1) := by decide +kernel
theorem dX11_go_20 : decode cX11_go 20 = .ok (.iaload, 1) := by decide +kernel
theorem dX11_go_21 : decode cX11_go 21 = .ok (.iload_n 1, 1) := by decide +kernel
theorem dX11_go_22 : decode cX11_go 22 = .ok (.iadd, 1) := by decide +kernel
theorem dX11_go_23 : decode cX11_go 23 = .ok (.sipush 9900, 3) := by decide +kernel
theorem dX11_go_26 : decode cX11_go 26 = .ok (.if_icmp .le 5, 3) := by decide +kernel
theorem dX11_go_29 : decode cX11_go 29 = .ok (.iconst (-1), 1) := by decide +kernel
theorem dX11_go_30 : decode cX11_go 30 = .ok (.ireturn, 1) := by decide +kernel
theorem dX11_go_31 : decode cX11_go 31 = .ok (.iload_n 1, 1) := by decide +kernel
theorem dX11_go_32 : decode cX11_go 32 = .ok (.ifCond .le 8, 3) := by decide +kernel
theorem dX11_go_35 : decode cX11_go 35 = .ok (.aload_n 0, 1) := by decide +kernel
theorem dX11_go_36 : decode cX11_go 36 = .ok (.iconst 0, 1) := by decide +kernel
theorem dX11_go_37 : decode cX11_go 37 = .ok (.putfield 335, 3) := by decide +kernel
theorem dX11_go_40 : decode cX11_go 40 = .ok (.iconst 0, 1) := by decide +kernel
theorem dX11_go_41 : decode cX11_go 41 = .ok (.istore_n 2, 1) := by decide +kernel
theorem dX11_go_42 : decode cX11_go 42 = .ok (.iload_n 2, 1) := by decide +kernel
theorem dX11_go_43 : decode cX11_go 43 = .ok (.iload_n 1, 1) := by decide +kernel
theorem dX11_go_44 : decode cX11_go 44 = .ok (.if_icmp .ge 15, 3) := by decide +kernel
theorem dX11_go_47 : decode cX11_go 47 = .ok (.aload_n 0, 1) := by decide +kernel
theorem dX11_go_48 : decode cX11_go 48 = .ok (.iconst 0, 1) := by decide +kernel
theorem dX11_go_49 : decode cX11_go 49 = .ok (.iconst 1, 1) := by decide +kernel
theorem dX11_go_50 : decode cX11_go 50 = .ok (.invokevirtual 465, 3) := by decide +kernel
theorem dX11_go_53 : decode cX11_go 53 = .ok (.iinc 2 1, 3) := by decide +kernel
theorem dX11_go_56 : decode cX11_go 56 = .ok (.goto (-14), 3) := by decide +kernel
theorem dX11_go_59 : decode cX11_go 59 = .ok (.aload_n 0, 1) := by decide +kernel
theorem dX11_go_60 : decode cX11_go 60 = .ok (.getfield 93, 3) := by decide +kernel
theorem dX11_go_63 : decode cX11_go 63 = .ok (.iconst 0, 1) := by decide +kernel
theorem dX11_go_64 : decode cX11_go 64 = .ok (.iaload, 1) := by decide +kernel
theorem dX11_go_65 : decode cX11_go 65 = .ok (.ireturn, 1) := by decide +kernel
theorem dX11_ahead_0 : decode cX11_ahead 0 = .ok (.aload_n 0, 1) := by decide +kernel
theorem dX11_ahead_1 : decode cX11_ahead 1 = .ok (.iconst 0, 1) := by decide +kernel
theorem dX11_ahead_2 : decode cX11_ahead 2 = .ok (.putfield 163, 3) := by decide +kernel
theorem dX11_ahead_5 : decode cX11_ahead 5 = .ok (.iload_n 1, 1) := by decide +kernel
theorem dX11_ahead_6 : decode cX11_ahead 6 = .ok (.ifCond .lt 18, 3) := by decide +kernel
theorem dX11_ahead_9 : decode cX11_ahead 9 = .ok (.iload_n 1, 1) := by decide +kernel
theorem dX11_ahead_10 : decode cX11_ahead 10 = .ok (.bipush 99, 2) := by decide +kernel
theorem dX11_ahead_12 : decode cX11_ahead 12 = .ok (.if_icmp .gt 12, 3) := by decide +kernel
theorem dX11_ahead_15 : decode cX11_ahead 15 = .ok (.iload_n 2, 1) := by decide +kernel
theorem dX11_ahead_16 : decode cX11_ahead 16 = .ok (.ifCond .lt 8, 3) := by decide +kernel
theorem dX11_ahead_19 : decode cX11_ahead 19 = .ok (.iload_n 2, 1) := by decide +kernel
theorem dX11_ahead_20 : decode cX11_ahead 20 = .ok (.iconst 4, 1) := by decide +kernel
theorem dX11_ahead_21 : decode cX11_ahead 21 = .ok (.if_icmp .le 5, 3) := by decide +kernel
theorem dX11_ahead_24 : decode cX11_ahead 24 = .ok (.iconst (-1), 1) := by decide +kernel
theorem dX11_ahead_25 : decode cX11_ahead 25 = .ok (.ireturn, 1) := by decide +kernel
theorem dX11_ahead_26 : decode cX11_ahead 26 = .ok (.aload_n 0, 1) := by decide +kernel
theorem dX11_ahead_27 : decode cX11_ahead 27 = .ok (.iconst 1, 1) := by decide +kernel
theorem dX11_ahead_28 : decode cX11_ahead 28 = .ok (.iconst 0, 1) := by decide +kernel
theorem dX11_ahead_29 : decode cX11_ahead 29 = .ok (.invokevirtual 488, 3) := by decide +kernel
theorem dX11_ahead_32 : decode cX11_ahead 32 = .ok (.aload_n 0, 1) := by decide +kernel
theorem dX11_ahead_33 : decode cX11_ahead 33 = .ok (.iload_n 1, 1) := by decide +kernel
theorem dX11_ahead_34 : decode cX11_ahead 34 = .ok (.invokevirtual 494, 3) := by decide +kernel
theorem dX11_ahead_37 : decode cX11_ahead 37 = .ok (.iload_n 2, 1) := by decide +kernel
theorem dX11_ahead_38 : decode cX11_ahead 38 = .ok (.tableswitch 88 0 3 #[30, 50, 62, 76], 30) := by decide +kernel
theorem dX11_ahead_68 : decode cX11_ahead 68 = .ok (.aload_n 0, 1) := by decide +kernel
theorem dX11_ahead_69 : decode cX11_ahead 69 = .ok (.getfield 117, 3) := by decide +kernel
theorem dX11_ahead_72 : decode cX11_ahead 72 = .ok (.iconst 1, 1) := by decide +kernel
theorem dX11_ahead_73 : decode cX11_ahead 73 = .ok (.iaload, 1) := by decide +kernel
theorem dX11_ahead_74 : decode cX11_ahead 74 = .ok (.invokestatic 361, 3) := by decide +kernel
theorem dX11_ahead_77 : decode cX11_ahead 77 = .ok (.aload_n 0, 1) := by decide +kernel
theorem dX11_ahead_78 : decode cX11_ahead 78 = .ok (.getfield 117, 3) := by decide +kernel
theorem dX11_ahead_81 : decode cX11_ahead 81 = .ok (.iconst 0, 1) := by decide +kernel
theorem dX11_ahead_82 : decode cX11_ahead 82 = .ok (.iaload, 1) := by decide +kernel
theorem dX11_ahead_83 : decode cX11_ahead 83 = .ok (.invokestatic 361, 3) := by decide +kernel
theorem dX11_ahead_86 : decode cX11_ahead 86 = .ok (.isub, 1) := by decide +kernel
theorem dX11_ahead_87 : decode cX11_ahead 87 = .ok (.ireturn, 1) := by decide +kernel
theorem dX11_ahead_88 : decode cX11_ahead 88 = .ok (.aload_n 0, 1) := by decide +kernel
theorem dX11_ahead_89 : decode cX11_ahead 89 = .ok (.iconst 1, 1) := by decide +kernel
theorem dX11_ahead_90 : decode cX11_ahead 90 = .ok (.invokevirtual 497, 3) := by decide +kernel
theorem dX11_ahead_93 : decode cX11_ahead 93 = .ok (.aload_n 0, 1) := by decide +kernel
theorem dX11_ahead_94 : decode cX11_ahead 94 = .ok (.iconst 0, 1) := by decide +kernel
theorem dX11_ahead_95 : decode cX11_ahead 95 = .ok (.invokevirtual 497, 3) := by decide +kernel
theorem dX11_ahead_98 : decode cX11_ahead 98 = .ok (.isub, 1) := by decide +kernel
theorem dX11_ahead_99 : decode cX11_ahead 99 = .ok (.ireturn, 1) := by decide +kernel
theorem dX11_ahead_100 : decode cX11_ahead 100 = .ok (.aload_n 0, 1) := by decide +kernel
theorem dX11_ahead_101 : decode cX11_ahead 101 = .ok (.getfield 99, 3) := by decide +kernel
theorem dX11_ahead_104 : decode cX11_ahead 104 = .ok (.iconst 1, 1) := by decide +kernel
theorem dX11_ahead_105 : decode cX11_ahead 105 = .ok (.iaload, 1) := by decide +kernel
theorem dX11_ahead_106 : decode cX11_ahead 106 = .ok (.aload_n 0, 1) := by decide +kernel
theorem dX11_ahead_107 : decode cX11_ahead 107 = .ok (.getfield 99, 3) := by decide +kernel
theorem dX11_ahead_110 : decode cX11_ahead 110 = .ok (.iconst 0, 1) := by decide +kernel
theorem dX11_ahead_111 : decode cX11_ahead 111 = .ok (.iaload, 1) := by decide +kernel
theorem dX11_ahead_112 : decode cX11_ahead 112 = .ok (.isub, 1) := by decide +kernel
theorem dX11_ahead_113 : decode cX11_ahead 113 = .ok (.ireturn, 1) := by decide +kernel
theorem dX11_ahead_114 : decode cX11_ahead 114 = .ok (.aload_n 0, 1) := by decide +kernel
theorem dX11_ahead_115 : decode cX11_ahead 115 = .ok (.iconst 1, 1) := by decide +kernel
theorem dX11_ahead_116 : decode cX11_ahead 116 = .ok (.invokevirtual 500, 3) := by decide +kernel
theorem dX11_ahead_119 : decode cX11_ahead 119 = .ok (.aload_n 0, 1) := by decide +kernel
theorem dX11_ahead_120 : decode cX11_ahead 120 = .ok (.iconst 0, 1) := by decide +kernel
theorem dX11_ahead_121 : decode cX11_ahead 121 = .ok (.invokevirtual 500, 3) := by decide +kernel
theorem dX11_ahead_124 : decode cX11_ahead 124 = .ok (.isub, 1) := by decide +kernel
theorem dX11_ahead_125 : decode cX11_ahead 125 = .ok (.ireturn, 1) := by decide +kernel
theorem dX11_ahead_126 : decode cX11_ahead 126 = .ok (.aload_n 0, 1) := by decide +kernel
theorem dX11_ahead_127 : decode cX11_ahead 127 = .ok (.getfield 111, 3) := by decide +kernel
theorem dX11_ahead_130 : decode cX11_ahead 130 = .ok (.iconst 1, 1) := by decide +kernel
theorem dX11_ahead_131 : decode cX11_ahead 131 = .ok (.iaload, 1) := by decide +kernel
theorem dX11_ahead_132 : decode cX11_ahead 132 = .ok (.aload_n 0, 1) := by decide +kernel
theorem dX11_ahead_133 : decode cX11_ahead 133 = .ok (.getfield 111, 3) := by decide +kernel
theorem dX11_ahead_136 : decode cX11_ahead 136 = .ok (.iconst 0, 1) := by decide +kernel
theorem dX11_ahead_137 : decode cX11_ahead 137 = .ok (.iaload, 1) := by decide +kernel
theorem dX11_ahead_138 : decode cX11_ahead 138 = .ok (.isub, 1) := by decide +kernel
theorem dX11_ahead_139 : decode cX11_ahead 139 = .ok (.ireturn, 1) := by decide +kernel
theorem dX11_when_0 : decode cX11_when 0 = .ok (.aload_n 0, 1) := by decide +kernel
theorem dX11_when_1 : decode cX11_when 1 = .ok (.iconst 0, 1) := by decide +kernel
theorem dX11_when_2 : decode cX11_when 2 = .ok (.putfield 163, 3) := by decide +kernel
theorem dX11_when_5 : decode cX11_when 5 = .ok (.aload_n 0, 1) := by decide +kernel
theorem dX11_when_6 : decode cX11_when 6 = .ok (.iload_n 1, 1) := by decide +kernel
theorem dX11_when_7 : decode cX11_when 7 = .ok (.invokevirtual 472, 3) := by decide +kernel
theorem dX11_when_10 : decode cX11_when 10 = .ok (.ifCond .ne 5, 3) := by decide +kernel
theorem dX11_when_13 : decode cX11_when 13 = .ok (.iconst (-1), 1) := by decide +kernel
theorem dX11_when_14 : decode cX11_when 14 = .ok (.ireturn, 1) := by decide +kernel
theorem dX11_when_15 : decode cX11_when 15 = .ok (.aload_n 0, 1) := by decide +kernel
theorem dX11_when_16 : decode cX11_when 16 = .ok (.iconst 1, 1) := by decide +kernel
theorem dX11_when_17 : decode cX11_when 17 = .ok (.iconst 0, 1) := by decide +kernel
theorem dX11_when_18 : decode cX11_when 18 = .ok (.invokevirtual 488, 3) := by decide +kernel
theorem dX11_when_21 : decode cX11_when 21 = .ok (.iconst 0, 1) := by decide +kernel
theorem dX11_when_22 : decode cX11_when 22 = .ok (.istore_n 2, 1) := by decide +kernel
theorem dX11_when_23 : decode cX11_when 23 = .ok (.iload_n 2, 1) := by decide +kernel
theorem dX11_when_24 : decode cX11_when 24 = .ok (.bipush 99, 2) := by decide +kernel
theorem dX11_when_26 : decode cX11_when 26 = .ok (.if_icmp .gt 31, 3) := by decide +kernel
theorem dX11_when_29 : decode cX11_when 29 = .ok (.aload_n 0, 1) := by decide +kernel
theorem dX11_when_30 : decode cX11_when 30 = .ok (.getfield 117, 3) := by decide +kernel
theorem dX11_when_33 : decode cX11_when 33 = .ok (.iconst 1, 1) := by decide +kernel
theorem dX11_when_34 : decode cX11_when 34 = .ok (.iaload, 1) := by decide +kernel
theorem dX11_when_35 : decode cX11_when 35 = .ok (.iload_n 1, 1) := by decide +kernel
theorem dX11_when_36 : decode cX11_when 36 = .ok (.ishr, 1) := by decide +kernel
theorem dX11_when_37 : decode cX11_when 37 = .ok (.iconst 1, 1) := by decide +kernel
theorem dX11_when_38 : decode cX11_when 38 = .ok (.iand, 1) := by decide +kernel
theorem dX11_when_39 : decode cX11_when 39 = .ok (.iconst 1, 1) := by decide +kernel
theorem dX11_when_40 : decode cX11_when 40 = .ok (.if_icmp .ne 5, 3) := by decide +kernel
theorem dX11_when_43 : decode cX11_when 43 = .ok (.iload_n 2, 1) := by decide +kernel
theorem dX11_when_44 : decode cX11_when 44 = .ok (.ireturn, 1) := by decide +kernel
theorem dX11_when_45 : decode cX11_when 45 = .ok (.aload_n 0, 1) := by decide +kernel
theorem dX11_when_46 : decode cX11_when 46 = .ok (.iconst 1, 1) := by decide +kernel
theorem dX11_when_47 : decode cX11_when 47 = .ok (.iconst 0, 1) := by decide +kernel
theorem dX11_when_48 : decode cX11_when 48 = .ok (.invokevirtual 465, 3) := by decide +kernel
theorem dX11_when_51 : decode cX11_when 51 = .ok (.iinc 2 1, 3) := by decide +kernel
theorem dX11_when_54 : decode cX11_when 54 = .ok (.goto (-31), 3) := by decide +kernel
theorem dX11_when_57 : decode cX11_when 57 = .ok (.bipush (-2), 2) := by decide +kernel
theorem dX11_when_59 : decode cX11_when 59 = .ok (.ireturn, 1) := by decide +kernel
theorem dX11_isNearer_0 : decode cX11_isNearer 0 = .ok (.iload_n 1, 1) := by decide +kernel
theorem dX11_isNearer_1 : decode cX11_isNearer 1 = .ok (.bipush 8, 2) := by decide +kernel
theorem dX11_isNearer_3 : decode cX11_isNearer 3 = .ok (.idiv, 1) := by decide +kernel
theorem dX11_isNearer_4 : decode cX11_isNearer 4 = .ok (.iload_n 2, 1) := by decide +kernel
theorem dX11_isNearer_5 : decode cX11_isNearer 5 = .ok (.invokestatic 390, 3) := by decide +kernel
theorem dX11_isNearer_8 : decode cX11_isNearer 8 = .ok (.iadd, 1) := by decide +kernel
theorem dX11_isNearer_9 : decode cX11_isNearer 9 = .ok (.istore_n 3, 1) := by decide +kernel
theorem dX11_isNearer_10 : decode cX11_isNearer 10 = .ok (.iload_n 1, 1) := by decide +kernel
theorem dX11_isNearer_11 : decode cX11_isNearer 11 = .ok (.bipush 8, 2) := by decide +kernel
theorem dX11_isNearer_13 : decode cX11_isNearer 13 = .ok (.irem, 1) := by decide +kernel
theorem dX11_isNearer_14 : decode cX11_isNearer 14 = .ok (.iload_n 2, 1) := by decide +kernel
theorem dX11_isNearer_15 : decode cX11_isNearer 15 = .ok (.invokestatic 396, 3) := by decide +kernel
theorem dX11_isNearer_18 : decode cX11_isNearer 18 = .ok (.iadd, 1) := by decide +kernel
theorem dX11_isNearer_19 : decode cX11_isNearer 19 = .ok (.istore 4, 2) := by decide +kernel
theorem dX11_isNearer_21 : decode cX11_isNearer 21 = .ok (.aload_n 0, 1) := by decide +kernel
theorem dX11_isNearer_22 : decode cX11_isNearer 22 = .ok (.iload_n 3, 1) := by decide +kernel
theorem dX11_isNearer_23 : decode cX11_isNearer 23 = .ok (.iload 4, 2) := by decide +kernel
theorem dX11_isNearer_25 : decode cX11_isNearer 25 = .ok (.invokevirtual 399, 3) := by decide +kernel
theorem dX11_isNearer_28 : decode cX11_isNearer 28 = .ok (.ifCond .eq 36, 3) := by decide +kernel
theorem dX11_isNearer_31 : decode cX11_isNearer 31 = .ok (.aload_n 0, 1) := by decide +kernel
theorem dX11_isNearer_32 : decode cX11_isNearer 32 = .ok (.iload_n 3, 1) := by decide +kernel
theorem dX11_isNearer_33 : decode cX11_isNearer 33 = .ok (.iload 4, 2) := by decide +kernel
theorem dX11_isNearer_35 : decode cX11_isNearer 35 = .ok (.invokevirtual 430, 3) := by decide +kernel
theorem dX11_isNearer_38 : decode cX11_isNearer 38 = .ok (.ifCond .ne 26, 3) := by decide +kernel
theorem dX11_isNearer_41 : decode cX11_isNearer 41 = .ok (.aload_n 0, 1) := by decide +kernel
theorem dX11_isNearer_42 : decode cX11_isNearer 42 = .ok (.getfield 129, 3) := by decide +kernel
theorem dX11_isNearer_45 : decode cX11_isNearer 45 = .ok (.iload_n 1, 1) := by decide +kernel
theorem dX11_isNearer_46 : decode cX11_isNearer 46 = .ok (.iaload, 1) := by decide +kernel
theorem dX11_isNearer_47 : decode cX11_isNearer 47 = .ok (.iconst 1, 1) := by decide +kernel
theorem dX11_isNearer_48 : decode cX11_isNearer 48 = .ok (.iadd, 1) := by decide +kernel
theorem dX11_isNearer_49 : decode cX11_isNearer 49 = .ok (.aload_n 0, 1) := by decide +kernel
theorem dX11_isNearer_50 : decode cX11_isNearer 50 = .ok (.getfield 129, 3) := by decide +kernel
theorem dX11_isNearer_53 : decode cX11_isNearer 53 = .ok (.bipush 8, 2) := by decide +kernel
theorem dX11_isNearer_55 : decode cX11_isNearer 55 = .ok (.iload_n 3, 1) := by decide +kernel
theorem dX11_isNearer_56 : decode cX11_isNearer 56 = .ok (.imul, 1) := by decide +kernel
theorem dX11_isNearer_57 : decode cX11_isNearer 57 = .ok (.iload 4, 2) := by decide +kernel
theorem dX11_isNearer_59 : decode cX11_isNearer 59 = .ok (.iadd, 1) := by decide +kernel
theorem dX11_isNearer_60 : decode cX11_isNearer 60 = .ok (.iaload, 1) := by decide +kernel
theorem dX11_isNearer_61 : decode cX11_isNearer 61 = .ok (.if_icmp .lt 5, 3) := by decide +kernel
theorem dX11_isNearer_64 : decode cX11_isNearer 64 = .ok (.iconst 0, 1) := by decide +kernel
theorem dX11_isNearer_65 : decode cX11_isNearer 65 = .ok (.ireturn, 1) := by decide +kernel
theorem dX11_isNearer_66 : decode cX11_isNearer 66 = .ok (.aload_n 0, 1) := by decide +kernel
theorem dX11_isNearer_67 : decode cX11_isNearer 67 = .ok (.getfield 129, 3) := by decide +kernel
theorem dX11_isNearer_70 : decode cX11_isNearer 70 = .ok (.bipush 8, 2) := by decide +kernel
theorem dX11_isNearer_72 : decode cX11_isNearer 72 = .ok (.iload_n 3, 1) := by decide +kernel
theorem dX11_isNearer_73 : decode cX11_isNearer 73 = .ok (.imul, 1) := by decide +kernel
theorem dX11_isNearer_74 : decode cX11_isNearer 74 = .ok (.iload 4, 2) := by decide +kernel
theorem dX11_isNearer_76 : decode cX11_isNearer 76 = .ok (.iadd, 1) := by decide +kernel
theorem dX11_isNearer_77 : decode cX11_isNearer 77 = .ok (.aload_n 0, 1) := by decide +kernel
theorem dX11_isNearer_78 : decode cX11_isNearer 78 = .ok (.getfield 129, 3) := by decide +kernel
theorem dX11_isNearer_81 : decode cX11_isNearer 81 = .ok (.iload_n 1, 1) := by decide +kernel
theorem dX11_isNearer_82 : decode cX11_isNearer 82 = .ok (.iaload, 1) := by decide +kernel
theorem dX11_isNearer_83 : decode cX11_isNearer 83 = .ok (.iconst 1, 1) := by decide +kernel
theorem dX11_isNearer_84 : decode cX11_isNearer 84 = .ok (.iadd, 1) := by decide +kernel
theorem dX11_isNearer_85 : decode cX11_isNearer 85 = .ok (.iastore, 1) := by decide +kernel
theorem dX11_isNearer_86 : decode cX11_isNearer 86 = .ok (.iconst 1, 1) := by decide +kernel
theorem dX11_isNearer_87 : decode cX11_isNearer 87 = .ok (.ireturn, 1) := by decide +kernel
theorem dX11_way_0 : decode cX11_way 0 = .ok (.aload_n 0, 1) := by decide +kernel
theorem dX11_way_1 : decode cX11_way 1 = .ok (.iconst 0, 1) := by decide +kernel
theorem dX11_way_2 : decode cX11_way 2 = .ok (.putfield 163, 3) := by decide +kernel
theorem dX11_way_5 : decode cX11_way 5 = .ok (.aload_n 0, 1) := by decide +kernel
theorem dX11_way_6 : decode cX11_way 6 = .ok (.iload_n 1, 1) := by decide +kernel
theorem dX11_way_7 : decode cX11_way 7 = .ok (.iload_n 2, 1) := by decide +kernel
theorem dX11_way_8 : decode cX11_way 8 = .ok (.invokevirtual 399, 3) := by decide +kernel
theorem dX11_way_11 : decode cX11_way 11 = .ok (.ifCond .ne 5, 3) := by decide +kernel
theorem dX11_way_14 : decode cX11_way 14 = .ok (.iconst (-1), 1) := by decide +kernel
theorem dX11_way_15 : decode cX11_way 15 = .ok (.ireturn, 1) := by decide +kernel
theorem dX11_way_16 : decode cX11_way 16 = .ok (.iconst 0, 1) := by decide +kernel
theorem dX11_way_17 : decode cX11_way 17 = .ok (.istore_n 3, 1) := by decide +kernel
theorem dX11_way_18 : decode cX11_way 18 = .ok (.iload_n 3, 1) := by decide +kernel
theorem dX11_way_19 : decode cX11_way 19 = .ok (.bipush 64, 2) := by decide +kernel
theorem dX11_way_21 : decode cX11_way 21 = .ok (.if_icmp .ge 18, 3) := by decide +kernel
theorem dX11_way_24 : decode cX11_way 24 = .ok (.aload_n 0, 1) := by decide +kernel
theorem dX11_way_25 : decode cX11_way 25 = .ok (.getfield 129, 3) := by decide +kernel
theorem dX11_way_28 : decode cX11_way 28 = .ok (.iload_n 3, 1) := by decide +kernel
theorem dX11_way_29 : decode cX11_way 29 = .ok (.sipush 999, 3) := by decide +kernel
theorem dX11_way_32 : decode cX11_way 32 = .ok (.iastore, 1) := by decide +kernel
theorem dX11_way_33 : decode cX11_way 33 = .ok (.iinc 3 1, 3) := by decide +kernel
theorem dX11_way_36 : decode cX11_way 36 = .ok (.goto (-18), 3) := by decide +kernel
theorem dX11_way_39 : decode cX11_way 39 = .ok (.aload_n 0, 1) := by decide +kernel
theorem dX11_way_40 : decode cX11_way 40 = .ok (.getfield 129, 3) := by decide +kernel
theorem dX11_way_43 : decode cX11_way 43 = .ok (.bipush 8, 2) := by decide +kernel
theorem dX11_way_45 : decode cX11_way 45 = .ok (.aload_n 0, 1) := by decide +kernel
theorem dX11_way_46 : decode cX11_way 46 = .ok (.getfield 102, 3) := by decide +kernel
theorem dX11_way_49 : decode cX11_way 49 = .ok (.iconst 0, 1) := by decide +kernel
theorem dX11_way_50 : decode cX11_way 50 = .ok (.iaload, 1) := by decide +kernel
theorem dX11_way_51 : decode cX11_way 51 = .ok (.imul, 1) := by decide +kernel
theorem dX11_way_52 : decode cX11_way 52 = .ok (.aload_n 0, 1) := by decide +kernel
theorem dX11_way_53 : decode cX11_way 53 = .ok (.getfield 105, 3) := by decide +kernel
theorem dX11_way_56 : decode cX11_way 56 = .ok (.iconst 0, 1) := by decide +kernel
theorem dX11_way_57 : decode cX11_way 57 = .ok (.iaload, 1) := by decide +kernel
theorem dX11_way_58 : decode cX11_way 58 = .ok (.iadd, 1) := by decide +kernel
theorem dX11_way_59 : decode cX11_way 59 = .ok (.iconst 0, 1) := by decide +kernel
theorem dX11_way_60 : decode cX11_way 60 = .ok (.iastore, 1) := by decide +kernel
theorem dX11_way_61 : decode cX11_way 61 = .ok (.iconst 1, 1) := by decide +kernel
theorem dX11_way_62 : decode cX11_way 62 = .ok (.istore_n 3, 1) := by decide +kernel
theorem dX11_way_63 : decode cX11_way 63 = .ok (.iload_n 3, 1) := by decide +kernel
theorem dX11_way_64 : decode cX11_way 64 = .ok (.ifCond .eq 63, 3) := by decide +kernel
theorem dX11_way_67 : decode cX11_way 67 = .ok (.iconst 0, 1) := by decide +kernel
theorem dX11_way_68 : decode cX11_way 68 = .ok (.istore_n 3, 1) := by decide +kernel
theorem dX11_way_69 : decode cX11_way 69 = .ok (.iconst 0, 1) := by decide +kernel
theorem dX11_way_70 : decode cX11_way 70 = .ok (.istore 4, 2) := by decide +kernel
theorem dX11_way_72 : decode cX11_way 72 = .ok (.iload 4, 2) := by decide +kernel
theorem dX11_way_74 : decode cX11_way 74 = .ok (.bipush 64, 2) := by decide +kernel
theorem dX11_way_76 : decode cX11_way 76 = .ok (.if_icmp .ge 48, 3) := by decide +kernel
theorem dX11_way_79 : decode cX11_way 79 = .ok (.iconst 0, 1) := by decide +kernel
theorem dX11_way_80 : decode cX11_way 80 = .ok (.istore 5, 2) := by decide +kernel
theorem dX11_way_82 : decode cX11_way 82 = .ok (.iload 5, 2) := by decide +kernel
theorem dX11_way_84 : decode cX11_way 84 = .ok (.iconst 4, 1) := by decide +kernel
theorem dX11_way_85 : decode cX11_way 85 = .ok (.if_icmp .ge 33, 3) := by decide +kernel
theorem dX11_way_88 : decode cX11_way 88 = .ok (.aload_n 0, 1) := by decide +kernel
theorem dX11_way_89 : decode cX11_way 89 = .ok (.getfield 129, 3) := by decide +kernel
theorem dX11_way_92 : decode cX11_way 92 = .ok (.iload 4, 2) := by decide +kernel
theorem dX11_way_94 : decode cX11_way 94 = .ok (.iaload, 1) := by decide +kernel
theorem dX11_way_95 : decode cX11_way 95 = .ok (.sipush 999, 3) := by decide +kernel
theorem dX11_way_98 : decode cX11_way 98 = .ok (.if_icmp .ge 20, 3) := by decide +kernel
theorem dX11_way_101 : decode cX11_way 101 = .ok (.iload_n 3, 1) := by decide +kernel
theorem dX11_way_102 : decode cX11_way 102 = .ok (.aload_n 0, 1) := by decide +kernel
theorem dX11_way_103 : decode cX11_way 103 = .ok (.iload 4, 2) := by decide +kernel
theorem dX11_way_105 : decode cX11_way 105 = .ok (.iload 5, 2) := by decide +kernel
theorem dX11_way_107 : decode cX11_way 107 = .ok (.invokevirtual 503, 3) := by decide +kernel
theorem dX11_way_110 : decode cX11_way 110 = .ok (.ior, 1) := by decide +kernel
theorem dX11_way_111 : decode cX11_way 111 = .ok (.istore_n 3, 1) := by decide +kernel
theorem dX11_way_112 : decode cX11_way 112 = .ok (.iinc 5 1, 3) := by decide +kernel
theorem dX11_way_115 : decode cX11_way 115 = .ok (.goto (-33), 3) := by decide +kernel
theorem dX11_way_118 : decode cX11_way 118 = .ok (.iinc 4 1, 3) := by decide +kernel
theorem dX11_way_121 : decode cX11_way 121 = .ok (.goto (-49), 3) := by decide +kernel
theorem dX11_way_124 : decode cX11_way 124 = .ok (.goto (-61), 3) := by decide +kernel
theorem dX11_way_127 : decode cX11_way 127 = .ok (.aload_n 0, 1) := by decide +kernel
theorem dX11_way_128 : decode cX11_way 128 = .ok (.getfield 129, 3) := by decide +kernel
theorem dX11_way_131 : decode cX11_way 131 = .ok (.bipush 8, 2) := by decide +kernel
theorem dX11_way_133 : decode cX11_way 133 = .ok (.iload_n 1, 1) := by decide +kernel
theorem dX11_way_134 : decode cX11_way 134 = .ok (.imul, 1) := by decide +kernel
theorem dX11_way_135 : decode cX11_way 135 = .ok (.iload_n 2, 1) := by decide +kernel
theorem dX11_way_136 : decode cX11_way 136 = .ok (.iadd, 1) := by decide +kernel
theorem dX11_way_137 : decode cX11_way 137 = .ok (.iaload, 1) := by decide +kernel
theorem dX11_way_138 : decode cX11_way 138 = .ok (.istore 4, 2) := by decide +kernel
theorem dX11_way_140 : decode cX11_way 140 = .ok (.iload 4, 2) := by decide +kernel
theorem dX11_way_142 : decode cX11_way 142 = .ok (.sipush 999, 3) := by decide +kernel
theorem dX11_way_145 : decode cX11_way 145 = .ok (.if_icmp .ne 8, 3) := by decide +kernel
theorem dX11_way_148 : decode cX11_way 148 = .ok (.bipush (-2), 2) := by decide +kernel
theorem dX11_way_150 : decode cX11_way 150 = .ok (.goto 5, 3) := by decide +kernel
theorem dX11_way_153 : decode cX11_way 153 = .ok (.iload 4, 2) := by decide +kernel
theorem dX11_way_155 : decode cX11_way 155 = .ok (.ireturn, 1) := by decide +kernel
theorem dX11_cast_0 : decode cX11_cast 0 = .ok (.aload_n 0, 1) := by decide +kernel
theorem dX11_cast_1 : decode cX11_cast 1 = .ok (.iconst 0, 1) := by decide +kernel
theorem dX11_cast_2 : decode cX11_cast 2 = .ok (.putfield 163, 3) := by decide +kernel
theorem dX11_cast_5 : decode cX11_cast 5 = .ok (.aload_n 0, 1) := by decide +kernel
theorem dX11_cast_6 : decode cX11_cast 6 = .ok (.iload_n 1, 1) := by decide +kernel
theorem dX11_cast_7 : decode cX11_cast 7 = .ok (.iload_n 2, 1) := by decide +kernel
theorem dX11_cast_8 : decode cX11_cast 8 = .ok (.invokevirtual 399, 3) := by decide +kernel
theorem dX11_cast_11 : decode cX11_cast 11 = .ok (.ifCond .eq 13, 3) := by decide +kernel
theorem dX11_cast_14 : decode cX11_cast 14 = .ok (.iload_n 3, 1) := by decide +kernel
theorem dX11_cast_15 : decode cX11_cast 15 = .ok (.ifCond .lt 9, 3) := by decide +kernel
theorem dX11_cast_18 : decode cX11_cast 18 = .ok (.iload_n 3, 1) := by decide +kernel
theorem dX11_cast_19 : decode cX11_cast 19 = .ok (.bipush 24, 2) := by decide +kernel
theorem dX11_cast_21 : decode cX11_cast 21 = .ok (.if_icmp .lt 5, 3) := by decide +kernel
theorem dX11_cast_24 : decode cX11_cast 24 = .ok (.iconst (-1), 1) := by decide +kernel
theorem dX11_cast_25 : decode cX11_cast 25 = .ok (.ireturn, 1) := by decide +kernel
theorem dX11_cast_26 : decode cX11_cast 26 = .ok (.aload_n 0, 1) := by decide +kernel
theorem dX11_cast_27 : decode cX11_cast 27 = .ok (.iconst 1, 1) := by decide +kernel
theorem dX11_cast_28 : decode cX11_cast 28 = .ok (.iconst 0, 1) := by decide +kernel
theorem dX11_cast_29 : decode cX11_cast 29 = .ok (.invokevirtual 488, 3) := by decide +kernel
theorem dX11_cast_32 : decode cX11_cast 32 = .ok (.iconst 0, 1) := by decide +kernel
theorem dX11_cast_33 : decode cX11_cast 33 = .ok (.istore 4, 2) := by decide +kernel
theorem dX11_cast_35 : decode cX11_cast 35 = .ok (.iconst 0, 1) := by decide +kernel
theorem dX11_cast_36 : decode cX11_cast 36 = .ok (.istore 5, 2) := by decide +kernel
theorem dX11_cast_38 : decode cX11_cast 38 = .ok (.iload 5, 2) := by decide +kernel
theorem dX11_cast_40 : decode cX11_cast 40 = .ok (.bipush 64, 2) := by decide +kernel
theorem dX11_cast_42 : decode cX11_cast 42 = .ok (.if_icmp .ge 94, 3) := by decide +kernel
theorem dX11_cast_45 : decode cX11_cast 45 = .ok (.aload_n 0, 1) := by decide +kernel
theorem dX11_cast_46 : decode cX11_cast 46 = .ok (.iload 5, 2) := by decide +kernel
theorem dX11_cast_48 : decode cX11_cast 48 = .ok (.bipush 8, 2) := by decide +kernel
theorem dX11_cast_50 : decode cX11_cast 50 = .ok (.idiv, 1) := by decide +kernel
theorem dX11_cast_51 : decode cX11_cast 51 = .ok (.iload 5, 2) := by decide +kernel
theorem dX11_cast_53 : decode cX11_cast 53 = .ok (.bipush 8, 2) := by decide +kernel
theorem dX11_cast_55 : decode cX11_cast 55 = .ok (.irem, 1) := by decide +kernel
theorem dX11_cast_56 : decode cX11_cast 56 = .ok (.invokevirtual 399, 3) := by decide +kernel
theorem dX11_cast_59 : decode cX11_cast 59 = .ok (.ifCond .eq 71, 3) := by decide +kernel
theorem dX11_cast_62 : decode cX11_cast 62 = .ok (.aload_n 0, 1) := by decide +kernel
theorem dX11_cast_63 : decode cX11_cast 63 = .ok (.iload 5, 2) := by decide +kernel
theorem dX11_cast_65 : decode cX11_cast 65 = .ok (.bipush 8, 2) := by decide +kernel
theorem dX11_cast_67 : decode cX11_cast 67 = .ok (.idiv, 1) := by decide +kernel
theorem dX11_cast_68 : decode cX11_cast 68 = .ok (.iload 5, 2) := by decide +kernel
theorem dX11_cast_70 : decode cX11_cast 70 = .ok (.bipush 8, 2) := by decide +kernel
theorem dX11_cast_72 : decode cX11_cast 72 = .ok (.irem, 1) := by decide +kernel
theorem dX11_cast_73 : decode cX11_cast 73 = .ok (.invokevirtual 430, 3) := by decide +kernel
theorem dX11_cast_76 : decode cX11_cast 76 = .ok (.ifCond .eq 6, 3) := by decide +kernel
theorem dX11_cast_79 : decode cX11_cast 79 = .ok (.goto 51, 3) := by decide +kernel
theorem dX11_cast_82 : decode cX11_cast 82 = .ok (.aload_n 0, 1) := by decide +kernel
theorem dX11_cast_83 : decode cX11_cast 83 = .ok (.getfield 102, 3) := by decide +kernel
theorem dX11_cast_86 : decode cX11_cast 86 = .ok (.iconst 1, 1) := by decide +kernel
theorem dX11_cast_87 : decode cX11_cast 87 = .ok (.iload 5, 2) := by decide +kernel
theorem dX11_cast_89 : decode cX11_cast 89 = .ok (.bipush 8, 2) := by decide +kernel
theorem dX11_cast_91 : decode cX11_cast 91 = .ok (.idiv, 1) := by decide +kernel
theorem dX11_cast_92 : decode cX11_cast 92 = .ok (.iastore, 1) := by decide +kernel
theorem dX11_cast_93 : decode cX11_cast 93 = .ok (.aload_n 0, 1) := by decide +kernel
theorem dX11_cast_94 : decode cX11_cast 94 = .ok (.getfield 105, 3) := by decide +kernel
theorem dX11_cast_97 : decode cX11_cast 97 = .ok (.iconst 1, 1) := by decide +kernel
theorem dX11_cast_98 : decode cX11_cast 98 = .ok (.iload 5, 2) := by decide +kernel
theorem dX11_cast_100 : decode cX11_cast 100 = .ok (.bipush 8, 2) := by decide +kernel
theorem dX11_cast_102 : decode cX11_cast 102 = .ok (.irem, 1) := by decide +kernel
theorem dX11_cast_103 : decode cX11_cast 103 = .ok (.iastore, 1) := by decide +kernel
theorem dX11_cast_104 : decode cX11_cast 104 = .ok (.aload_n 0, 1) := by decide +kernel
theorem dX11_cast_105 : decode cX11_cast 105 = .ok (.iconst 1, 1) := by decide +kernel
theorem dX11_cast_106 : decode cX11_cast 106 = .ok (.iload_n 3, 1) := by decide +kernel
theorem dX11_cast_107 : decode cX11_cast 107 = .ok (.iconst 0, 1) := by decide +kernel
theorem dX11_cast_108 : decode cX11_cast 108 = .ok (.invokevirtual 455, 3) := by decide +kernel
theorem dX11_cast_111 : decode cX11_cast 111 = .ok (.iload 4, 2) := by decide +kernel
theorem dX11_cast_113 : decode cX11_cast 113 = .ok (.aload_n 0, 1) := by decide +kernel
theorem dX11_cast_114 : decode cX11_cast 114 = .ok (.iload_n 1, 1) := by decide +kernel
theorem dX11_cast_115 : decode cX11_cast 115 = .ok (.iload_n 2, 1) := by decide +kernel
theorem dX11_cast_116 : decode cX11_cast 116 = .ok (.invokevirtual 445, 3) := by decide +kernel
theorem dX11_cast_119 : decode cX11_cast 119 = .ok (.ifCond .eq 7, 3) := by decide +kernel
theorem dX11_cast_122 : decode cX11_cast 122 = .ok (.iconst 1, 1) := by decide +kernel
theorem dX11_cast_123 : decode cX11_cast 123 = .ok (.goto 4, 3) := by decide +kernel
theorem dX11_cast_126 : decode cX11_cast 126 = .ok (.iconst 0, 1) := by decide +kernel
theorem dX11_cast_127 : decode cX11_cast 127 = .ok (.iadd, 1) := by decide +kernel
theorem dX11_cast_128 : decode cX11_cast 128 = .ok (.istore 4, 2) := by decide +kernel
theorem dX11_cast_130 : decode cX11_cast 130 = .ok (.iinc 5 1, 3) := by decide +kernel
theorem dX11_cast_133 : decode cX11_cast 133 = .ok (.goto (-95), 3) := by decide +kernel
theorem dX11_cast_136 : decode cX11_cast 136 = .ok (.iload 4, 2) := by decide +kernel
theorem dX11_cast_138 : decode cX11_cast 138 = .ok (.ireturn, 1) := by decide +kernel
theorem dX11_lampsFor_0 : decode cX11_lampsFor 0 = .ok (.aload_n 0, 1) := by decide +kernel
theorem dX11_lampsFor_1 : decode cX11_lampsFor 1 = .ok (.iconst 0, 1) := by decide +kernel
theorem dX11_lampsFor_2 : decode cX11_lampsFor 2 = .ok (.putfield 163, 3) := by decide +kernel
theorem dX11_lampsFor_5 : decode cX11_lampsFor 5 = .ok (.aload_n 0, 1) := by decide +kernel
theorem dX11_lampsFor_6 : decode cX11_lampsFor 6 = .ok (.iload_n 1, 1) := by decide +kernel
theorem dX11_lampsFor_7 : decode cX11_lampsFor 7 = .ok (.iload_n 2, 1) := by decide +kernel
theorem dX11_lampsFor_8 : decode cX11_lampsFor 8 = .ok (.invokevirtual 399, 3) := by decide +kernel
theorem dX11_lampsFor_11 : decode cX11_lampsFor 11 = .ok (.ifCond .ne 5, 3) := by decide +kernel
theorem dX11_lampsFor_14 : decode cX11_lampsFor 14 = .ok (.iconst (-1), 1) := by decide +kernel
theorem dX11_lampsFor_15 : decode cX11_lampsFor 15 = .ok (.ireturn, 1) := by decide +kernel
theorem dX11_lampsFor_16 : decode cX11_lampsFor 16 = .ok (.aload_n 0, 1) := by decide +kernel
theorem dX11_lampsFor_17 : decode cX11_lampsFor 17 = .ok (.iconst 1, 1) := by decide +kernel
theorem dX11_lampsFor_18 : decode cX11_lampsFor 18 = .ok (.iconst 0, 1) := by decide +kernel
theorem dX11_lampsFor_19 : decode cX11_lampsFor 19 = .ok (.invokevirtual 488, 3) := by decide +kernel
theorem dX11_lampsFor_22 : decode cX11_lampsFor 22 = .ok (.bipush (-2), 2) := by decide +kernel
theorem dX11_lampsFor_24 : decode cX11_lampsFor 24 = .ok (.istore_n 3, 1) := by decide +kernel
theorem dX11_lampsFor_25 : decode cX11_lampsFor 25 = .ok (.iconst 0, 1) := by decide +kernel
theorem dX11_lampsFor_26 : decode cX11_lampsFor 26 = .ok (.istore 4, 2) := by decide +kernel
theorem dX11_lampsFor_28 : decode cX11_lampsFor 28 = .ok (.iload 4, 2) := by decide +kernel
theorem dX11_lampsFor_30 : decode cX11_lampsFor 30 = .ok (.iconst 1, 1) := by decide +kernel
theorem dX11_lampsFor_31 : decode cX11_lampsFor 31 = .ok (.aload_n 0, 1) := by decide +kernel
theorem dX11_lampsFor_32 : decode cX11_lampsFor 32 = .ok (.getfield 13, 3) := by decide +kernel
theorem dX11_lampsFor_35 : decode cX11_lampsFor 35 = .ok (.bipush 6, 2) := by decide +kernel
