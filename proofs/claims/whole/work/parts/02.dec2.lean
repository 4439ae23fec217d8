-- the decode rows, as printed
theorem dX12_next_223 : decode cX12_next 223 = .ok (.aload_n 0, 1) := by decide +kernel
theorem dX12_next_224 : decode cX12_next 224 = .ok (.aload_n 0, 1) := by decide +kernel
theorem dX12_next_225 : decode cX12_next 225 = .ok (.getfield 123, 3) := by decide +kernel
theorem dX12_next_228 : decode cX12_next 228 = .ok (.ldc 139, 2) := by decide +kernel
theorem dX12_next_230 : decode cX12_next 230 = .ok (.if_icmp .le 8, 3) := by decide +kernel
theorem dX12_next_233 : decode cX12_next 233 = .ok (.ldc 140, 2) := by decide +kernel
theorem dX12_next_235 : decode cX12_next 235 = .ok (.goto 23, 3) := by decide +kernel
theorem dX12_next_238 : decode cX12_next 238 = .ok (.bipush 10, 2) := by decide +kernel
theorem dX12_next_240 : decode cX12_next 240 = .ok (.aload_n 0, 1) := by decide +kernel
theorem dX12_next_241 : decode cX12_next 241 = .ok (.getfield 123, 3) := by decide +kernel
theorem dX12_next_244 : decode cX12_next 244 = .ok (.imul, 1) := by decide +kernel
theorem dX12_next_245 : decode cX12_next 245 = .ok (.aload_n 0, 1) := by decide +kernel
theorem dX12_next_246 : decode cX12_next 246 = .ok (.getfield 23, 3) := by decide +kernel
theorem dX12_next_249 : decode cX12_next 249 = .ok (.aload_n 0, 1) := by decide +kernel
theorem dX12_next_250 : decode cX12_next 250 = .ok (.getfield 113, 3) := by decide +kernel
theorem dX12_next_253 : decode cX12_next 253 = .ok (.baload, 1) := by decide +kernel
theorem dX12_next_254 : decode cX12_next 254 = .ok (.iadd, 1) := by decide +kernel
theorem dX12_next_255 : decode cX12_next 255 = .ok (.bipush 48, 2) := by decide +kernel
theorem dX12_next_257 : decode cX12_next 257 = .ok (.isub, 1) := by decide +kernel
theorem dX12_next_258 : decode cX12_next 258 = .ok (.putfield 123, 3) := by decide +kernel
theorem dX12_next_261 : decode cX12_next 261 = .ok (.aload_n 0, 1) := by decide +kernel
theorem dX12_next_262 : decode cX12_next 262 = .ok (.dup, 1) := by decide +kernel
theorem dX12_next_263 : decode cX12_next 263 = .ok (.getfield 113, 3) := by decide +kernel
theorem dX12_next_266 : decode cX12_next 266 = .ok (.iconst 1, 1) := by decide +kernel
theorem dX12_next_267 : decode cX12_next 267 = .ok (.iadd, 1) := by decide +kernel
theorem dX12_next_268 : decode cX12_next 268 = .ok (.putfield 113, 3) := by decide +kernel
theorem dX12_next_271 : decode cX12_next 271 = .ok (.goto (-63), 3) := by decide +kernel
theorem dX12_next_274 : decode cX12_next 274 = .ok (.aload_n 0, 1) := by decide +kernel
theorem dX12_next_275 : decode cX12_next 275 = .ok (.aload_n 0, 1) := by decide +kernel
theorem dX12_next_276 : decode cX12_next 276 = .ok (.getfield 23, 3) := by decide +kernel
theorem dX12_next_279 : decode cX12_next 279 = .ok (.aload_n 0, 1) := by decide +kernel
theorem dX12_next_280 : decode cX12_next 280 = .ok (.getfield 113, 3) := by decide +kernel
theorem dX12_next_283 : decode cX12_next 283 = .ok (.baload, 1) := by decide +kernel
theorem dX12_next_284 : decode cX12_next 284 = .ok (.bipush 59, 2) := by decide +kernel
theorem dX12_next_286 : decode cX12_next 286 = .ok (.if_icmp .ne 7, 3) := by decide +kernel
theorem dX12_next_289 : decode cX12_next 289 = .ok (.iconst 3, 1) := by decide +kernel
theorem dX12_next_290 : decode cX12_next 290 = .ok (.goto 4, 3) := by decide +kernel
theorem dX12_next_293 : decode cX12_next 293 = .ok (.iconst 4, 1) := by decide +kernel
theorem dX12_next_294 : decode cX12_next 294 = .ok (.putfield 130, 3) := by decide +kernel
theorem dX12_next_297 : decode cX12_next 297 = .ok (.aload_n 0, 1) := by decide +kernel
theorem dX12_next_298 : decode cX12_next 298 = .ok (.dup, 1) := by decide +kernel
theorem dX12_next_299 : decode cX12_next 299 = .ok (.getfield 113, 3) := by decide +kernel
theorem dX12_next_302 : decode cX12_next 302 = .ok (.iconst 1, 1) := by decide +kernel
theorem dX12_next_303 : decode cX12_next 303 = .ok (.iadd, 1) := by decide +kernel
theorem dX12_next_304 : decode cX12_next 304 = .ok (.putfield 113, 3) := by decide +kernel
theorem dX12_next_307 : decode cX12_next 307 = .ok (.return_, 1) := by decide +kernel
theorem dX12_isGood_0 : decode cX12_isGood 0 = .ok (.aload_n 0, 1) := by decide +kernel
theorem dX12_isGood_1 : decode cX12_isGood 1 = .ok (.getfield 141, 3) := by decide +kernel
theorem dX12_isGood_4 : decode cX12_isGood 4 = .ok (.ifCond .ne 7, 3) := by decide +kernel
theorem dX12_isGood_7 : decode cX12_isGood 7 = .ok (.iconst 1, 1) := by decide +kernel
theorem dX12_isGood_8 : decode cX12_isGood 8 = .ok (.goto 4, 3) := by decide +kernel
theorem dX12_isGood_11 : decode cX12_isGood 11 = .ok (.iconst 0, 1) := by decide +kernel
theorem dX12_isGood_12 : decode cX12_isGood 12 = .ok (.ireturn, 1) := by decide +kernel
theorem dX12_fails_0 : decode cX12_fails 0 = .ok (.aload_n 0, 1) := by decide +kernel
theorem dX12_fails_1 : decode cX12_fails 1 = .ok (.getfield 141, 3) := by decide +kernel
theorem dX12_fails_4 : decode cX12_fails 4 = .ok (.ifCond .eq 4, 3) := by decide +kernel
theorem dX12_fails_7 : decode cX12_fails 7 = .ok (.return_, 1) := by decide +kernel
theorem dX12_fails_8 : decode cX12_fails 8 = .ok (.aload_n 0, 1) := by decide +kernel
theorem dX12_fails_9 : decode cX12_fails 9 = .ok (.iload_n 1, 1) := by decide +kernel
theorem dX12_fails_10 : decode cX12_fails 10 = .ok (.putfield 141, 3) := by decide +kernel
theorem dX12_fails_13 : decode cX12_fails 13 = .ok (.aload_n 0, 1) := by decide +kernel
theorem dX12_fails_14 : decode cX12_fails 14 = .ok (.aload_n 0, 1) := by decide +kernel
theorem dX12_fails_15 : decode cX12_fails 15 = .ok (.getfield 120, 3) := by decide +kernel
theorem dX12_fails_18 : decode cX12_fails 18 = .ok (.putfield 144, 3) := by decide +kernel
theorem dX12_fails_21 : decode cX12_fails 21 = .ok (.return_, 1) := by decide +kernel
theorem dX12_is_0 : decode cX12_is 0 = .ok (.aload_n 0, 1) := by decide +kernel
theorem dX12_is_1 : decode cX12_is 1 = .ok (.getfield 141, 3) := by decide +kernel
theorem dX12_is_4 : decode cX12_is 4 = .ok (.ifCond .ne 24, 3) := by decide +kernel
theorem dX12_is_7 : decode cX12_is 7 = .ok (.aload_n 0, 1) := by decide +kernel
theorem dX12_is_8 : decode cX12_is 8 = .ok (.getfield 130, 3) := by decide +kernel
theorem dX12_is_11 : decode cX12_is 11 = .ok (.iconst 1, 1) := by decide +kernel
theorem dX12_is_12 : decode cX12_is 12 = .ok (.if_icmp .ne 16, 3) := by decide +kernel
theorem dX12_is_15 : decode cX12_is 15 = .ok (.aload_n 0, 1) := by decide +kernel
theorem dX12_is_16 : decode cX12_is 16 = .ok (.getfield 126, 3) := by decide +kernel
theorem dX12_is_19 : decode cX12_is 19 = .ok (.lload_n 1, 1) := by decide +kernel
theorem dX12_is_20 : decode cX12_is 20 = .ok (.lcmp, 1) := by decide +kernel
theorem dX12_is_21 : decode cX12_is 21 = .ok (.ifCond .ne 7, 3) := by decide +kernel
theorem dX12_is_24 : decode cX12_is 24 = .ok (.iconst 1, 1) := by decide +kernel
theorem dX12_is_25 : decode cX12_is 25 = .ok (.goto 4, 3) := by decide +kernel
theorem dX12_is_28 : decode cX12_is 28 = .ok (.iconst 0, 1) := by decide +kernel
theorem dX12_is_29 : decode cX12_is 29 = .ok (.ireturn, 1) := by decide +kernel
theorem dX12_takes_0 : decode cX12_takes 0 = .ok (.aload_n 0, 1) := by decide +kernel
theorem dX12_takes_1 : decode cX12_takes 1 = .ok (.lload_n 1, 1) := by decide +kernel
theorem dX12_takes_2 : decode cX12_takes 2 = .ok (.invokevirtual 147, 3) := by decide +kernel
theorem dX12_takes_5 : decode cX12_takes 5 = .ok (.ifCond .ne 5, 3) := by decide +kernel
theorem dX12_takes_8 : decode cX12_takes 8 = .ok (.iconst 0, 1) := by decide +kernel
theorem dX12_takes_9 : decode cX12_takes 9 = .ok (.ireturn, 1) := by decide +kernel
theorem dX12_takes_10 : decode cX12_takes 10 = .ok (.aload_n 0, 1) := by decide +kernel
theorem dX12_takes_11 : decode cX12_takes 11 = .ok (.invokevirtual 151, 3) := by decide +kernel
theorem dX12_takes_14 : decode cX12_takes 14 = .ok (.iconst 1, 1) := by decide +kernel
theorem dX12_takes_15 : decode cX12_takes 15 = .ok (.ireturn, 1) := by decide +kernel
theorem dX12_asks_0 : decode cX12_asks 0 = .ok (.aload_n 0, 1) := by decide +kernel
theorem dX12_asks_1 : decode cX12_asks 1 = .ok (.lload_n 1, 1) := by decide +kernel
theorem dX12_asks_2 : decode cX12_asks 2 = .ok (.invokevirtual 154, 3) := by decide +kernel
theorem dX12_asks_5 : decode cX12_asks 5 = .ok (.ifCond .ne 8, 3) := by decide +kernel
theorem dX12_asks_8 : decode cX12_asks 8 = .ok (.aload_n 0, 1) := by decide +kernel
theorem dX12_asks_9 : decode cX12_asks 9 = .ok (.iconst 1, 1) := by decide +kernel
theorem dX12_asks_10 : decode cX12_asks 10 = .ok (.invokevirtual 157, 3) := by decide +kernel
theorem dX12_asks_13 : decode cX12_asks 13 = .ok (.return_, 1) := by decide +kernel
theorem dX12_number_0 : decode cX12_number 0 = .ok (.aload_n 0, 1) := by decide +kernel
theorem dX12_number_1 : decode cX12_number 1 = .ok (.getfield 141, 3) := by decide +kernel
theorem dX12_number_4 : decode cX12_number 4 = .ok (.ifCond .eq 5, 3) := by decide +kernel
theorem dX12_number_7 : decode cX12_number 7 = .ok (.iload_n 1, 1) := by decide +kernel
theorem dX12_number_8 : decode cX12_number 8 = .ok (.ireturn, 1) := by decide +kernel
theorem dX12_number_9 : decode cX12_number 9 = .ok (.aload_n 0, 1) := by decide +kernel
theorem dX12_number_10 : decode cX12_number 10 = .ok (.getfield 130, 3) := by decide +kernel
theorem dX12_number_13 : decode cX12_number 13 = .ok (.iconst 2, 1) := by decide +kernel
theorem dX12_number_14 : decode cX12_number 14 = .ok (.if_icmp .eq 10, 3) := by decide +kernel
theorem dX12_number_17 : decode cX12_number 17 = .ok (.aload_n 0, 1) := by decide +kernel
theorem dX12_number_18 : decode cX12_number 18 = .ok (.iconst 1, 1) := by decide +kernel
theorem dX12_number_19 : decode cX12_number 19 = .ok (.invokevirtual 157, 3) := by decide +kernel
theorem dX12_number_22 : decode cX12_number 22 = .ok (.iload_n 1, 1) := by decide +kernel
theorem dX12_number_23 : decode cX12_number 23 = .ok (.ireturn, 1) := by decide +kernel
theorem dX12_number_24 : decode cX12_number 24 = .ok (.aload_n 0, 1) := by decide +kernel
theorem dX12_number_25 : decode cX12_number 25 = .ok (.getfield 123, 3) := by decide +kernel
theorem dX12_number_28 : decode cX12_number 28 = .ok (.i2l, 1) := by decide +kernel
theorem dX12_number_29 : decode cX12_number 29 = .ok (.iload_n 1, 1) := by decide +kernel
theorem dX12_number_30 : decode cX12_number 30 = .ok (.i2l, 1) := by decide +kernel
theorem dX12_number_31 : decode cX12_number 31 = .ok (.iload_n 2, 1) := by decide +kernel
theorem dX12_number_32 : decode cX12_number 32 = .ok (.i2l, 1) := by decide +kernel
theorem dX12_number_33 : decode cX12_number 33 = .ok (.invokestatic 94, 3) := by decide +kernel
theorem dX12_number_36 : decode cX12_number 36 = .ok (.ifCond .ne 10, 3) := by decide +kernel
theorem dX12_number_39 : decode cX12_number 39 = .ok (.aload_n 0, 1) := by decide +kernel
theorem dX12_number_40 : decode cX12_number 40 = .ok (.iconst 2, 1) := by decide +kernel
theorem dX12_number_41 : decode cX12_number 41 = .ok (.invokevirtual 157, 3) := by decide +kernel
theorem dX12_number_44 : decode cX12_number 44 = .ok (.iload_n 1, 1) := by decide +kernel
theorem dX12_number_45 : decode cX12_number 45 = .ok (.ireturn, 1) := by decide +kernel
theorem dX12_number_46 : decode cX12_number 46 = .ok (.aload_n 0, 1) := by decide +kernel
theorem dX12_number_47 : decode cX12_number 47 = .ok (.getfield 123, 3) := by decide +kernel
theorem dX12_number_50 : decode cX12_number 50 = .ok (.istore_n 3, 1) := by decide +kernel
theorem dX12_number_51 : decode cX12_number 51 = .ok (.aload_n 0, 1) := by decide +kernel
theorem dX12_number_52 : decode cX12_number 52 = .ok (.invokevirtual 151, 3) := by decide +kernel
theorem dX12_number_55 : decode cX12_number 55 = .ok (.iload_n 3, 1) := by decide +kernel
theorem dX12_number_56 : decode cX12_number 56 = .ok (.ireturn, 1) := by decide +kernel
theorem dX12_number__0 : decode cX12_number_ 0 = .ok (.aload_n 0, 1) := by decide +kernel
theorem dX12_number__1 : decode cX12_number_ 1 = .ok (.lload_n 1, 1) := by decide +kernel
theorem dX12_number__2 : decode cX12_number_ 2 = .ok (.invokevirtual 160, 3) := by decide +kernel
theorem dX12_number__5 : decode cX12_number_ 5 = .ok (.aload_n 0, 1) := by decide +kernel
theorem dX12_number__6 : decode cX12_number_ 6 = .ok (.iload_n 3, 1) := by decide +kernel
theorem dX12_number__7 : decode cX12_number_ 7 = .ok (.iload 4, 2) := by decide +kernel
theorem dX12_number__9 : decode cX12_number_ 9 = .ok (.invokevirtual 164, 3) := by decide +kernel
theorem dX12_number__12 : decode cX12_number_ 12 = .ok (.ireturn, 1) := by decide +kernel
theorem dX12_ends_0 : decode cX12_ends 0 = .ok (.aload_n 0, 1) := by decide +kernel
theorem dX12_ends_1 : decode cX12_ends 1 = .ok (.getfield 130, 3) := by decide +kernel
theorem dX12_ends_4 : decode cX12_ends 4 = .ok (.iconst 3, 1) := by decide +kernel
theorem dX12_ends_5 : decode cX12_ends 5 = .ok (.if_icmp .eq 8, 3) := by decide +kernel
theorem dX12_ends_8 : decode cX12_ends 8 = .ok (.aload_n 0, 1) := by decide +kernel
theorem dX12_ends_9 : decode cX12_ends 9 = .ok (.iconst 1, 1) := by decide +kernel
theorem dX12_ends_10 : decode cX12_ends 10 = .ok (.invokevirtual 157, 3) := by decide +kernel
theorem dX12_ends_13 : decode cX12_ends 13 = .ok (.aload_n 0, 1) := by decide +kernel
theorem dX12_ends_14 : decode cX12_ends 14 = .ok (.getfield 141, 3) := by decide +kernel
theorem dX12_ends_17 : decode cX12_ends 17 = .ok (.ifCond .ne 7, 3) := by decide +kernel
theorem dX12_ends_20 : decode cX12_ends 20 = .ok (.aload_n 0, 1) := by decide +kernel
theorem dX12_ends_21 : decode cX12_ends 21 = .ok (.invokevirtual 151, 3) := by decide +kernel
theorem dX12_ends_24 : decode cX12_ends 24 = .ok (.return_, 1) := by decide +kernel
theorem dX12_begins_0 : decode cX12_begins 0 = .ok (.aload_n 0, 1) := by decide +kernel
theorem dX12_begins_1 : decode cX12_begins 1 = .ok (.iconst 0, 1) := by decide +kernel
theorem dX12_begins_2 : decode cX12_begins 2 = .ok (.putfield 141, 3) := by decide +kernel
theorem dX12_begins_5 : decode cX12_begins 5 = .ok (.aload_n 0, 1) := by decide +kernel
theorem dX12_begins_6 : decode cX12_begins 6 = .ok (.iconst (-1), 1) := by decide +kernel
theorem dX12_begins_7 : decode cX12_begins 7 = .ok (.putfield 144, 3) := by decide +kernel
theorem dX12_begins_10 : decode cX12_begins 10 = .ok (.aload_n 0, 1) := by decide +kernel
theorem dX12_begins_11 : decode cX12_begins 11 = .ok (.iconst 0, 1) := by decide +kernel
theorem dX12_begins_12 : decode cX12_begins 12 = .ok (.putfield 113, 3) := by decide +kernel
theorem dX12_begins_15 : decode cX12_begins 15 = .ok (.aload_n 0, 1) := by decide +kernel
theorem dX12_begins_16 : decode cX12_begins 16 = .ok (.invokevirtual 151, 3) := by decide +kernel
theorem dX12_begins_19 : decode cX12_begins 19 = .ok (.return_, 1) := by decide +kernel
theorem dX12_isOver_0 : decode cX12_isOver 0 = .ok (.aload_n 0, 1) := by decide +kernel
theorem dX12_isOver_1 : decode cX12_isOver 1 = .ok (.iconst 0, 1) := by decide +kernel
theorem dX12_isOver_2 : decode cX12_isOver 2 = .ok (.putfield 106, 3) := by decide +kernel
theorem dX12_isOver_5 : decode cX12_isOver 5 = .ok (.aload_n 0, 1) := by decide +kernel
theorem dX12_isOver_6 : decode cX12_isOver 6 = .ok (.aload_n 0, 1) := by decide +kernel
theorem dX12_isOver_7 : decode cX12_isOver 7 = .ok (.getfield 141, 3) := by decide +kernel
theorem dX12_isOver_10 : decode cX12_isOver 10 = .ok (.putfield 168, 3) := by decide +kernel
theorem dX12_isOver_13 : decode cX12_isOver 13 = .ok (.aload_n 0, 1) := by decide +kernel
theorem dX12_isOver_14 : decode cX12_isOver 14 = .ok (.aload_n 0, 1) := by decide +kernel
theorem dX12_isOver_15 : decode cX12_isOver 15 = .ok (.getfield 141, 3) := by decide +kernel
theorem dX12_isOver_18 : decode cX12_isOver 18 = .ok (.ifCond .ne 7, 3) := by decide +kernel
theorem dX12_isOver_21 : decode cX12_isOver 21 = .ok (.iconst (-1), 1) := by decide +kernel
theorem dX12_isOver_22 : decode cX12_isOver 22 = .ok (.goto 7, 3) := by decide +kernel
theorem dX12_isOver_25 : decode cX12_isOver 25 = .ok (.aload_n 0, 1) := by decide +kernel
theorem dX12_isOver_26 : decode cX12_isOver 26 = .ok (.getfield 144, 3) := by decide +kernel
theorem dX12_isOver_29 : decode cX12_isOver 29 = .ok (.putfield 27, 3) := by decide +kernel
theorem dX12_isOver_32 : decode cX12_isOver 32 = .ok (.return_, 1) := by decide +kernel
theorem dX12_fault_0 : decode cX12_fault 0 = .ok (.aload_n 0, 1) := by decide +kernel
theorem dX12_fault_1 : decode cX12_fault 1 = .ok (.iconst 0, 1) := by decide +kernel
theorem dX12_fault_2 : decode cX12_fault 2 = .ok (.putfield 89, 3) := by decide +kernel
theorem dX12_fault_5 : decode cX12_fault 5 = .ok (.iload_n 1, 1) := by decide +kernel
theorem dX12_fault_6 : decode cX12_fault 6 = .ok (.ifCond .ne 10, 3) := by decide +kernel
theorem dX12_fault_9 : decode cX12_fault 9 = .ok (.aload_n 0, 1) := by decide +kernel
theorem dX12_fault_10 : decode cX12_fault 10 = .ok (.getfield 168, 3) := by decide +kernel
theorem dX12_fault_13 : decode cX12_fault 13 = .ok (.goto 16, 3) := by decide +kernel
theorem dX12_fault_16 : decode cX12_fault 16 = .ok (.iload_n 1, 1) := by decide +kernel
theorem dX12_fault_17 : decode cX12_fault 17 = .ok (.iconst 1, 1) := by decide +kernel
theorem dX12_fault_18 : decode cX12_fault 18 = .ok (.if_icmp .ne 10, 3) := by decide +kernel
theorem dX12_fault_21 : decode cX12_fault 21 = .ok (.aload_n 0, 1) := by decide +kernel
theorem dX12_fault_22 : decode cX12_fault 22 = .ok (.getfield 27, 3) := by decide +kernel
theorem dX12_fault_25 : decode cX12_fault 25 = .ok (.goto 4, 3) := by decide +kernel
theorem dX12_fault_28 : decode cX12_fault 28 = .ok (.iconst (-1), 1) := by decide +kernel
theorem dX12_fault_29 : decode cX12_fault 29 = .ok (.ireturn, 1) := by decide +kernel
theorem dX12_hasRead_0 : decode cX12_hasRead 0 = .ok (.aload_n 0, 1) := by decide +kernel
theorem dX12_hasRead_1 : decode cX12_hasRead 1 = .ok (.getfield 34, 3) := by decide +kernel
theorem dX12_hasRead_4 : decode cX12_hasRead 4 = .ok (.bipush 24, 2) := by decide +kernel
theorem dX12_hasRead_6 : decode cX12_hasRead 6 = .ok (.iload_n 1, 1) := by decide +kernel
theorem dX12_hasRead_7 : decode cX12_hasRead 7 = .ok (.iadd, 1) := by decide +kernel
theorem dX12_hasRead_8 : decode cX12_hasRead 8 = .ok (.iaload, 1) := by decide +kernel
theorem dX12_hasRead_9 : decode cX12_hasRead 9 = .ok (.ireturn, 1) := by decide +kernel
theorem dX12_reads_0 : decode cX12_reads 0 = .ok (.aload_n 0, 1) := by decide +kernel
theorem dX12_reads_1 : decode cX12_reads 1 = .ok (.getfield 34, 3) := by decide +kernel
theorem dX12_reads_4 : decode cX12_reads 4 = .ok (.bipush 24, 2) := by decide +kernel
theorem dX12_reads_6 : decode cX12_reads 6 = .ok (.iload_n 1, 1) := by decide +kernel
theorem dX12_reads_7 : decode cX12_reads 7 = .ok (.iadd, 1) := by decide +kernel
theorem dX12_reads_8 : decode cX12_reads 8 = .ok (.iload_n 2, 1) := by decide +kernel
theorem dX12_reads_9 : decode cX12_reads 9 = .ok (.iastore, 1) := by decide +kernel
theorem dX12_reads_10 : decode cX12_reads 10 = .ok (.return_, 1) := by decide +kernel
theorem dX12_placeRead_0 : decode cX12_placeRead 0 = .ok (.bipush 9, 2) := by decide +kernel
theorem dX12_placeRead_2 : decode cX12_placeRead 2 = .ok (.bipush 32, 2) := by decide +kernel
theorem dX12_placeRead_4 : decode cX12_placeRead 4 = .ok (.iload_n 1, 1) := by decide +kernel
theorem dX12_placeRead_5 : decode cX12_placeRead 5 = .ok (.iadd, 1) := by decide +kernel
theorem dX12_placeRead_6 : decode cX12_placeRead 6 = .ok (.imul, 1) := by decide +kernel
theorem dX12_placeRead_7 : decode cX12_placeRead 7 = .ok (.ireturn, 1) := by decide +kernel
theorem dX12_officialHere_0 : decode cX12_officialHere 0 = .ok (.aload_n 0, 1) := by decide +kernel
theorem dX12_officialHere_1 : decode cX12_officialHere 1 = .ok (.iconst 0, 1) := by decide +kernel
theorem dX12_officialHere_2 : decode cX12_officialHere 2 = .ok (.aload_n 0, 1) := by decide +kernel
theorem dX12_officialHere_3 : decode cX12_officialHere 3 = .ok (.iconst 3, 1) := by decide +kernel
theorem dX12_officialHere_4 : decode cX12_officialHere 4 = .ok (.invokevirtual 171, 3) := by decide +kernel
theorem dX12_officialHere_7 : decode cX12_officialHere 7 = .ok (.iconst 1, 1) := by decide +kernel
theorem dX12_officialHere_8 : decode cX12_officialHere 8 = .ok (.isub, 1) := by decide +kernel
theorem dX12_officialHere_9 : decode cX12_officialHere 9 = .ok (.invokevirtual 164, 3) := by decide +kernel
theorem dX12_officialHere_12 : decode cX12_officialHere 12 = .ok (.ireturn, 1) := by decide +kernel
theorem dX12_roomHere_0 : decode cX12_roomHere 0 = .ok (.aload_n 0, 1) := by decide +kernel
theorem dX12_roomHere_1 : decode cX12_roomHere 1 = .ok (.iconst 0, 1) := by decide +kernel
theorem dX12_roomHere_2 : decode cX12_roomHere 2 = .ok (.aload_n 0, 1) := by decide +kernel
theorem dX12_roomHere_3 : decode cX12_roomHere 3 = .ok (.iconst 0, 1) := by decide +kernel
theorem dX12_roomHere_4 : decode cX12_roomHere 4 = .ok (.invokevirtual 171, 3) := by decide +kernel
theorem dX12_roomHere_7 : decode cX12_roomHere 7 = .ok (.iconst 1, 1) := by decide +kernel
theorem dX12_roomHere_8 : decode cX12_roomHere 8 = .ok (.isub, 1) := by decide +kernel
theorem dX12_roomHere_9 : decode cX12_roomHere 9 = .ok (.invokevirtual 164, 3) := by decide +kernel
theorem dX12_roomHere_12 : decode cX12_roomHere 12 = .ok (.ireturn, 1) := by decide +kernel
theorem dX12_officialLine_0 : decode cX12_officialLine 0 = .ok (.aload_n 0, 1) := by decide +kernel
theorem dX12_officialLine_1 : decode cX12_officialLine 1 = .ok (.iconst 3, 1) := by decide +kernel
theorem dX12_officialLine_2 : decode cX12_officialLine 2 = .ok (.invokevirtual 171, 3) := by decide +kernel
theorem dX12_officialLine_5 : decode cX12_officialLine 5 = .ok (.istore_n 1, 1) := by decide +kernel
theorem dX12_officialLine_6 : decode cX12_officialLine 6 = .ok (.aload_n 0, 1) := by decide +kernel
theorem dX12_officialLine_7 : decode cX12_officialLine 7 = .ok (.iload_n 1, 1) := by decide +kernel
theorem dX12_officialLine_8 : decode cX12_officialLine 8 = .ok (.invokevirtual 175, 3) := by decide +kernel
theorem dX12_officialLine_11 : decode cX12_officialLine 11 = .ok (.istore_n 2, 1) := by decide +kernel
theorem dX12_officialLine_12 : decode cX12_officialLine 12 = .ok (.iconst 0, 1) := by decide +kernel
theorem dX12_officialLine_13 : decode cX12_officialLine 13 = .ok (.istore_n 3, 1) := by decide +kernel
theorem dX12_officialLine_14 : decode cX12_officialLine 14 = .ok (.iload_n 3, 1) := by decide +kernel
theorem dX12_officialLine_15 : decode cX12_officialLine 15 = .ok (.bipush 9, 2) := by decide +kernel
theorem dX12_officialLine_17 : decode cX12_officialLine 17 = .ok (.if_icmp .ge 33, 3) := by decide +kernel
theorem dX12_officialLine_20 : decode cX12_officialLine 20 = .ok (.aload_n 0, 1) := by decide +kernel
theorem dX12_officialLine_21 : decode cX12_officialLine 21 = .ok (.getfield 37, 3) := by decide +kernel
theorem dX12_officialLine_24 : decode cX12_officialLine 24 = .ok (.iload_n 2, 1) := by decide +kernel
theorem dX12_officialLine_25 : decode cX12_officialLine 25 = .ok (.iload_n 3, 1) := by decide +kernel
theorem dX12_officialLine_26 : decode cX12_officialLine 26 = .ok (.iadd, 1) := by decide +kernel
theorem dX12_officialLine_27 : decode cX12_officialLine 27 = .ok (.iload_n 3, 1) := by decide +kernel
theorem dX12_officialLine_28 : decode cX12_officialLine 28 = .ok (.iconst 3, 1) := by decide +kernel
theorem dX12_officialLine_29 : decode cX12_officialLine 29 = .ok (.if_icmp .le 13, 3) := by decide +kernel
theorem dX12_officialLine_32 : decode cX12_officialLine 32 = .ok (.iload_n 3, 1) := by decide +kernel
theorem dX12_officialLine_33 : decode cX12_officialLine 33 = .ok (.bipush 6, 2) := by decide +kernel
theorem dX12_officialLine_35 : decode cX12_officialLine 35 = .ok (.if_icmp .eq 7, 3) := by decide +kernel
theorem dX12_officialLine_38 : decode cX12_officialLine 38 = .ok (.iconst (-1), 1) := by decide +kernel
theorem dX12_officialLine_39 : decode cX12_officialLine 39 = .ok (.goto 4, 3) := by decide +kernel
theorem dX12_officialLine_42 : decode cX12_officialLine 42 = .ok (.iconst 0, 1) := by decide +kernel
theorem dX12_officialLine_43 : decode cX12_officialLine 43 = .ok (.iastore, 1) := by decide +kernel
theorem dX12_officialLine_44 : decode cX12_officialLine 44 = .ok (.iinc 3 1, 3) := by decide +kernel
theorem dX12_officialLine_47 : decode cX12_officialLine 47 = .ok (.goto (-33), 3) := by decide +kernel
theorem dX12_officialLine_50 : decode cX12_officialLine 50 = .ok (.aload_n 0, 1) := by decide +kernel
theorem dX12_officialLine_51 : decode cX12_officialLine 51 = .ok (.getfield 40, 3) := by decide +kernel
theorem dX12_officialLine_54 : decode cX12_officialLine 54 = .ok (.bipush 32, 2) := by decide +kernel
theorem dX12_officialLine_56 : decode cX12_officialLine 56 = .ok (.iload_n 1, 1) := by decide +kernel
theorem dX12_officialLine_57 : decode cX12_officialLine 57 = .ok (.iadd, 1) := by decide +kernel
theorem dX12_officialLine_58 : decode cX12_officialLine 58 = .ok (.iconst 0, 1) := by decide +kernel
theorem dX12_officialLine_59 : decode cX12_officialLine 59 = .ok (.iastore, 1) := by decide +kernel
theorem dX12_officialLine_60 : decode cX12_officialLine 60 = .ok (.aload_n 0, 1) := by decide +kernel
theorem dX12_officialLine_61 : decode cX12_officialLine 61 = .ok (.getfield 43, 3) := by decide +kernel
theorem dX12_officialLine_64 : decode cX12_officialLine 64 = .ok (.bipush 32, 2) := by decide +kernel
theorem dX12_officialLine_66 : decode cX12_officialLine 66 = .ok (.iload_n 1, 1) := by decide +kernel
theorem dX12_officialLine_67 : decode cX12_officialLine 67 = .ok (.iadd, 1) := by decide +kernel
theorem dX12_officialLine_68 : decode cX12_officialLine 68 = .ok (.iconst 0, 1) := by decide +kernel
theorem dX12_officialLine_69 : decode cX12_officialLine 69 = .ok (.iastore, 1) := by decide +kernel
theorem dX12_officialLine_70 : decode cX12_officialLine 70 = .ok (.aload_n 0, 1) := by decide +kernel
theorem dX12_officialLine_71 : decode cX12_officialLine 71 = .ok (.ldc2_w 178, 3) := by decide +kernel
theorem dX12_officialLine_74 : decode cX12_officialLine 74 = .ok (.invokevirtual 160, 3) := by decide +kernel
theorem dX12_officialLine_77 : decode cX12_officialLine 77 = .ok (.aload_n 0, 1) := by decide +kernel
theorem dX12_officialLine_78 : decode cX12_officialLine 78 = .ok (.getfield 37, 3) := by decide +kernel
theorem dX12_officialLine_81 : decode cX12_officialLine 81 = .ok (.iload_n 2, 1) := by decide +kernel
theorem dX12_officialLine_82 : decode cX12_officialLine 82 = .ok (.aload_n 0, 1) := by decide +kernel
theorem dX12_officialLine_83 : decode cX12_officialLine 83 = .ok (.invokevirtual 180, 3) := by decide +kernel
theorem dX12_officialLine_86 : decode cX12_officialLine 86 = .ok (.iastore, 1) := by decide +kernel
theorem dX12_officialLine_87 : decode cX12_officialLine 87 = .ok (.aload_n 0, 1) := by decide +kernel
theorem dX12_officialLine_88 : decode cX12_officialLine 88 = .ok (.getfield 37, 3) := by decide +kernel
theorem dX12_officialLine_91 : decode cX12_officialLine 91 = .ok (.iload_n 2, 1) := by decide +kernel
theorem dX12_officialLine_92 : decode cX12_officialLine 92 = .ok (.iconst 1, 1) := by decide +kernel
theorem dX12_officialLine_93 : decode cX12_officialLine 93 = .ok (.iadd, 1) := by decide +kernel
theorem dX12_officialLine_94 : decode cX12_officialLine 94 = .ok (.aload_n 0, 1) := by decide +kernel
theorem dX12_officialLine_95 : decode cX12_officialLine 95 = .ok (.ldc2_w 184, 3) := by decide +kernel
theorem dX12_officialLine_98 : decode cX12_officialLine 98 = .ok (.iconst 0, 1) := by decide +kernel
theorem dX12_officialLine_99 : decode cX12_officialLine 99 = .ok (.bipush 9, 2) := by decide +kernel
theorem dX12_officialLine_101 : decode cX12_officialLine 101 = .ok (.invokevirtual 186, 3) := by decide +kernel
theorem dX12_officialLine_104 : decode cX12_officialLine 104 = .ok (.iastore, 1) := by decide +kernel
theorem dX12_officialLine_105 : decode cX12_officialLine 105 = .ok (.aload_n 0, 1) := by decide +kernel
theorem dX12_officialLine_106 : decode cX12_officialLine 106 = .ok (.getfield 37, 3) := by decide +kernel
theorem dX12_officialLine_109 : decode cX12_officialLine 109 = .ok (.iload_n 2, 1) := by decide +kernel
theorem dX12_officialLine_110 : decode cX12_officialLine 110 = .ok (.iconst 2, 1) := by decide +kernel
theorem dX12_officialLine_111 : decode cX12_officialLine 111 = .ok (.iadd, 1) := by decide +kernel
theorem dX12_officialLine_112 : decode cX12_officialLine 112 = .ok (.aload_n 0, 1) := by decide +kernel
theorem dX12_officialLine_113 : decode cX12_officialLine 113 = .ok (.ldc2_w 189, 3) := by decide +kernel
theorem dX12_officialLine_116 : decode cX12_officialLine 116 = .ok (.aload_n 0, 1) := by decide +kernel
theorem dX12_officialLine_117 : decode cX12_officialLine 117 = .ok (.getfield 37, 3) := by decide +kernel
theorem dX12_officialLine_120 : decode cX12_officialLine 120 = .ok (.iload_n 2, 1) := by decide +kernel
theorem dX12_officialLine_121 : decode cX12_officialLine 121 = .ok (.iconst 1, 1) := by decide +kernel
theorem dX12_officialLine_122 : decode cX12_officialLine 122 = .ok (.iadd, 1) := by decide +kernel
theorem dX12_officialLine_123 : decode cX12_officialLine 123 = .ok (.iaload, 1) := by decide +kernel
theorem dX12_officialLine_124 : decode cX12_officialLine 124 = .ok (.bipush 9, 2) := by decide +kernel
theorem dX12_officialLine_126 : decode cX12_officialLine 126 = .ok (.invokevirtual 186, 3) := by decide +kernel
theorem dX12_officialLine_129 : decode cX12_officialLine 129 = .ok (.iastore, 1) := by decide +kernel
theorem dX12_officialLine_130 : decode cX12_officialLine 130 = .ok (.aload_n 0, 1) := by decide +kernel
theorem dX12_officialLine_131 : decode cX12_officialLine 131 = .ok (.getfield 37, 3) := by decide +kernel
theorem dX12_officialLine_134 : decode cX12_officialLine 134 = .ok (.iload_n 2, 1) := by decide +kernel
theorem dX12_officialLine_135 : decode cX12_officialLine 135 = .ok (.iconst 3, 1) := by decide +kernel
theorem dX12_officialLine_136 : decode cX12_officialLine 136 = .ok (.iadd, 1) := by decide +kernel
theorem dX12_officialLine_137 : decode cX12_officialLine 137 = .ok (.aload_n 0, 1) := by decide +kernel
theorem dX12_officialLine_138 : decode cX12_officialLine 138 = .ok (.ldc2_w 191, 3) := by decide +kernel
theorem dX12_officialLine_141 : decode cX12_officialLine 141 = .ok (.iconst 1, 1) := by decide +kernel
theorem dX12_officialLine_142 : decode cX12_officialLine 142 = .ok (.bipush 31, 2) := by decide +kernel
theorem dX12_officialLine_144 : decode cX12_officialLine 144 = .ok (.invokevirtual 186, 3) := by decide +kernel
theorem dX12_officialLine_147 : decode cX12_officialLine 147 = .ok (.iastore, 1) := by decide +kernel
theorem dX12_officialLine_148 : decode cX12_officialLine 148 = .ok (.iconst 0, 1) := by decide +kernel
theorem dX12_officialLine_149 : decode cX12_officialLine 149 = .ok (.istore_n 3, 1) := by decide +kernel
theorem dX12_officialLine_150 : decode cX12_officialLine 150 = .ok (.aload_n 0, 1) := by decide +kernel
theorem dX12_officialLine_151 : decode cX12_officialLine 151 = .ok (.invokevirtual 193, 3) := by decide +kernel
theorem dX12_officialLine_154 : decode cX12_officialLine 154 = .ok (.ifCond .eq 175, 3) := by decide +kernel
theorem dX12_officialLine_157 : decode cX12_officialLine 157 = .ok (.aload_n 0, 1) := by decide +kernel
theorem dX12_officialLine_158 : decode cX12_officialLine 158 = .ok (.getfield 130, 3) := by decide +kernel
theorem dX12_officialLine_161 : decode cX12_officialLine 161 = .ok (.iconst 1, 1) := by decide +kernel
theorem dX12_officialLine_162 : decode cX12_officialLine 162 = .ok (.if_icmp .ne 167, 3) := by decide +kernel
theorem dX12_officialLine_165 : decode cX12_officialLine 165 = .ok (.aload_n 0, 1) := by decide +kernel
theorem dX12_officialLine_166 : decode cX12_officialLine 166 = .ok (.ldc2_w 197, 3) := by decide +kernel
theorem dX12_officialLine_169 : decode cX12_officialLine 169 = .ok (.invokevirtual 147, 3) := by decide +kernel
theorem dX12_officialLine_172 : decode cX12_officialLine 172 = .ok (.ifCond .eq 7, 3) := by decide +kernel
theorem dX12_officialLine_175 : decode cX12_officialLine 175 = .ok (.iconst 4, 1) := by decide +kernel
theorem dX12_officialLine_176 : decode cX12_officialLine 176 = .ok (.goto 33, 3) := by decide +kernel
theorem dX12_officialLine_179 : decode cX12_officialLine 179 = .ok (.aload_n 0, 1) := by decide +kernel
theorem dX12_officialLine_180 : decode cX12_officialLine 180 = .ok (.ldc2_w 199, 3) := by decide +kernel
theorem dX12_officialLine_183 : decode cX12_officialLine 183 = .ok (.invokevirtual 147, 3) := by decide +kernel
theorem dX12_officialLine_186 : decode cX12_officialLine 186 = .ok (.ifCond .eq 7, 3) := by decide +kernel
theorem dX12_officialLine_189 : decode cX12_officialLine 189 = .ok (.iconst 5, 1) := by decide +kernel
theorem dX12_officialLine_190 : decode cX12_officialLine 190 = .ok (.goto 19, 3) := by decide +kernel
theorem dX12_officialLine_193 : decode cX12_officialLine 193 = .ok (.aload_n 0, 1) := by decide +kernel
theorem dX12_officialLine_194 : decode cX12_officialLine 194 = .ok (.ldc2_w 201, 3) := by decide +kernel
theorem dX12_officialLine_197 : decode cX12_officialLine 197 = .ok (.invokevirtual 147, 3) := by decide +kernel
theorem dX12_officialLine_200 : decode cX12_officialLine 200 = .ok (.ifCond .eq 8, 3) := by decide +kernel
theorem dX12_officialLine_203 : decode cX12_officialLine 203 = .ok (.bipush 6, 2) := by decide +kernel
theorem dX12_officialLine_205 : decode cX12_officialLine 205 = .ok (.goto 4, 3) := by decide +kernel
theorem dX12_officialLine_208 : decode cX12_officialLine 208 = .ok (.iconst (-1), 1) := by decide +kernel
theorem dX12_officialLine_209 : decode cX12_officialLine 209 = .ok (.istore 4, 2) := by decide +kernel
theorem dX12_officialLine_211 : decode cX12_officialLine 211 = .ok (.iload 4, 2) := by decide +kernel
theorem dX12_officialLine_213 : decode cX12_officialLine 213 = .ok (.iconst (-1), 1) := by decide +kernel
theorem dX12_officialLine_214 : decode cX12_officialLine 214 = .ok (.if_icmp .eq 30, 3) := by decide +kernel
theorem dX12_officialLine_217 : decode cX12_officialLine 217 = .ok (.iload 4, 2) := by decide +kernel
theorem dX12_officialLine_219 : decode cX12_officialLine 219 = .ok (.bipush 6, 2) := by decide +kernel
theorem dX12_officialLine_221 : decode cX12_officialLine 221 = .ok (.if_icmp .ne 10, 3) := by decide +kernel
theorem dX12_officialLine_224 : decode cX12_officialLine 224 = .ok (.iload_n 3, 1) := by decide +kernel
theorem dX12_officialLine_225 : decode cX12_officialLine 225 = .ok (.ifCond .eq 24, 3) := by decide +kernel
theorem dX12_officialLine_228 : decode cX12_officialLine 228 = .ok (.goto 16, 3) := by decide +kernel
theorem dX12_officialLine_231 : decode cX12_officialLine 231 = .ok (.aload_n 0, 1) := by decide +kernel
theorem dX12_officialLine_232 : decode cX12_officialLine 232 = .ok (.getfield 37, 3) := by decide +kernel
theorem dX12_officialLine_235 : decode cX12_officialLine 235 = .ok (.iload_n 2, 1) := by decide +kernel
theorem dX12_officialLine_236 : decode cX12_officialLine 236 = .ok (.iload 4, 2) := by decide +kernel
theorem dX12_officialLine_238 : decode cX12_officialLine 238 = .ok (.iadd, 1) := by decide +kernel
theorem dX12_officialLine_239 : decode cX12_officialLine 239 = .ok (.iaload, 1) := by decide +kernel
theorem dX12_officialLine_240 : decode cX12_officialLine 240 = .ok (.iconst (-1), 1) := by decide +kernel
theorem dX12_officialLine_241 : decode cX12_officialLine 241 = .ok (.if_icmp .eq 8, 3) := by decide +kernel
theorem dX12_officialLine_244 : decode cX12_officialLine 244 = .ok (.aload_n 0, 1) := by decide +kernel
theorem dX12_officialLine_245 : decode cX12_officialLine 245 = .ok (.iconst 1, 1) := by decide +kernel
theorem dX12_officialLine_246 : decode cX12_officialLine 246 = .ok (.invokevirtual 157, 3) := by decide +kernel
theorem dX12_officialLine_249 : decode cX12_officialLine 249 = .ok (.aload_n 0, 1) := by decide +kernel
theorem dX12_officialLine_250 : decode cX12_officialLine 250 = .ok (.getfield 141, 3) := by decide +kernel
theorem dX12_officialLine_253 : decode cX12_officialLine 253 = .ok (.ifCond .eq 4, 3) := by decide +kernel
theorem dX12_officialLine_256 : decode cX12_officialLine 256 = .ok (.return_, 1) := by decide +kernel
theorem dX12_officialLine_257 : decode cX12_officialLine 257 = .ok (.aload_n 0, 1) := by decide +kernel
theorem dX12_officialLine_258 : decode cX12_officialLine 258 = .ok (.invokevirtual 151, 3) := by decide +kernel
theorem dX12_officialLine_261 : decode cX12_officialLine 261 = .ok (.aload_n 0, 1) := by decide +kernel
theorem dX12_officialLine_262 : decode cX12_officialLine 262 = .ok (.getfield 37, 3) := by decide +kernel
theorem dX12_officialLine_265 : decode cX12_officialLine 265 = .ok (.iload_n 2, 1) := by decide +kernel
theorem dX12_officialLine_266 : decode cX12_officialLine 266 = .ok (.iload 4, 2) := by decide +kernel
theorem dX12_officialLine_268 : decode cX12_officialLine 268 = .ok (.iadd, 1) := by decide +kernel
theorem dX12_officialLine_269 : decode cX12_officialLine 269 = .ok (.iload 4, 2) := by decide +kernel
theorem dX12_officialLine_271 : decode cX12_officialLine 271 = .ok (.iconst 4, 1) := by decide +kernel
theorem dX12_officialLine_272 : decode cX12_officialLine 272 = .ok (.if_icmp .ne 13, 3) := by decide +kernel
theorem dX12_officialLine_275 : decode cX12_officialLine 275 = .ok (.aload_n 0, 1) := by decide +kernel
theorem dX12_officialLine_276 : decode cX12_officialLine 276 = .ok (.iconst 0, 1) := by decide +kernel
theorem dX12_officialLine_277 : decode cX12_officialLine 277 = .ok (.bipush 9, 2) := by decide +kernel
theorem dX12_officialLine_279 : decode cX12_officialLine 279 = .ok (.invokevirtual 164, 3) := by decide +kernel
theorem dX12_officialLine_282 : decode cX12_officialLine 282 = .ok (.goto 26, 3) := by decide +kernel
theorem dX12_officialLine_285 : decode cX12_officialLine 285 = .ok (.iload 4, 2) := by decide +kernel
theorem dX12_officialLine_287 : decode cX12_officialLine 287 = .ok (.iconst 5, 1) := by decide +kernel
theorem dX12_officialLine_288 : decode cX12_officialLine 288 = .ok (.if_icmp .ne 13, 3) := by decide +kernel
theorem dX12_officialLine_291 : decode cX12_officialLine 291 = .ok (.aload_n 0, 1) := by decide +kernel
theorem dX12_officialLine_292 : decode cX12_officialLine 292 = .ok (.iconst 1, 1) := by decide +kernel
theorem dX12_officialLine_293 : decode cX12_officialLine 293 = .ok (.bipush 20, 2) := by decide +kernel
theorem dX12_officialLine_295 : decode cX12_officialLine 295 = .ok (.invokevirtual 164, 3) := by decide +kernel
theorem dX12_officialLine_298 : decode cX12_officialLine 298 = .ok (.goto 10, 3) := by decide +kernel
theorem dX12_officialLine_301 : decode cX12_officialLine 301 = .ok (.aload_n 0, 1) := by decide +kernel
theorem dX12_officialLine_302 : decode cX12_officialLine 302 = .ok (.iconst 0, 1) := by decide +kernel
theorem dX12_officialLine_303 : decode cX12_officialLine 303 = .ok (.bipush 99, 2) := by decide +kernel
theorem dX12_officialLine_305 : decode cX12_officialLine 305 = .ok (.invokevirtual 164, 3) := by decide +kernel
theorem dX12_officialLine_308 : decode cX12_officialLine 308 = .ok (.iastore, 1) := by decide +kernel
theorem dX12_officialLine_309 : decode cX12_officialLine 309 = .ok (.iload_n 3, 1) := by decide +kernel
theorem dX12_officialLine_310 : decode cX12_officialLine 310 = .ok (.ifCond .ne 10, 3) := by decide +kernel
theorem dX12_officialLine_313 : decode cX12_officialLine 313 = .ok (.iload 4, 2) := by decide +kernel
theorem dX12_officialLine_315 : decode cX12_officialLine 315 = .ok (.bipush 6, 2) := by decide +kernel
theorem dX12_officialLine_317 : decode cX12_officialLine 317 = .ok (.if_icmp .ne 7, 3) := by decide +kernel
theorem dX12_officialLine_320 : decode cX12_officialLine 320 = .ok (.iconst 1, 1) := by decide +kernel
theorem dX12_officialLine_321 : decode cX12_officialLine 321 = .ok (.goto 4, 3) := by decide +kernel
theorem dX12_officialLine_324 : decode cX12_officialLine 324 = .ok (.iconst 0, 1) := by decide +kernel
theorem dX12_officialLine_325 : decode cX12_officialLine 325 = .ok (.istore_n 3, 1) := by decide +kernel
theorem dX12_officialLine_326 : decode cX12_officialLine 326 = .ok (.goto (-176), 3) := by decide +kernel
theorem dX12_officialLine_329 : decode cX12_officialLine 329 = .ok (.aload_n 0, 1) := by decide +kernel
theorem dX12_officialLine_330 : decode cX12_officialLine 330 = .ok (.iconst 3, 1) := by decide +kernel
theorem dX12_officialLine_331 : decode cX12_officialLine 331 = .ok (.iload_n 1, 1) := by decide +kernel
theorem dX12_officialLine_332 : decode cX12_officialLine 332 = .ok (.iconst 1, 1) := by decide +kernel
theorem dX12_officialLine_333 : decode cX12_officialLine 333 = .ok (.iadd, 1) := by decide +kernel
theorem dX12_officialLine_334 : decode cX12_officialLine 334 = .ok (.invokevirtual 203, 3) := by decide +kernel
theorem dX12_officialLine_337 : decode cX12_officialLine 337 = .ok (.return_, 1) := by decide +kernel
theorem dX12_wayLine_0 : decode cX12_wayLine 0 = .ok (.aload_n 0, 1) := by decide +kernel
theorem dX12_wayLine_1 : decode cX12_wayLine 1 = .ok (.invokevirtual 180, 3) := by decide +kernel
theorem dX12_wayLine_4 : decode cX12_wayLine 4 = .ok (.istore_n 1, 1) := by decide +kernel
theorem dX12_wayLine_5 : decode cX12_wayLine 5 = .ok (.aload_n 0, 1) := by decide +kernel
theorem dX12_wayLine_6 : decode cX12_wayLine 6 = .ok (.getfield 141, 3) := by decide +kernel
theorem dX12_wayLine_9 : decode cX12_wayLine 9 = .ok (.ifCond .ne 24, 3) := by decide +kernel
theorem dX12_wayLine_12 : decode cX12_wayLine 12 = .ok (.aload_n 0, 1) := by decide +kernel
theorem dX12_wayLine_13 : decode cX12_wayLine 13 = .ok (.getfield 130, 3) := by decide +kernel
theorem dX12_wayLine_16 : decode cX12_wayLine 16 = .ok (.iconst 2, 1) := by decide +kernel
theorem dX12_wayLine_17 : decode cX12_wayLine 17 = .ok (.if_icmp .ne 16, 3) := by decide +kernel
theorem dX12_wayLine_20 : decode cX12_wayLine 20 = .ok (.aload_n 0, 1) := by decide +kernel
theorem dX12_wayLine_21 : decode cX12_wayLine 21 = .ok (.getfield 123, 3) := by decide +kernel
theorem dX12_wayLine_24 : decode cX12_wayLine 24 = .ok (.iload_n 1, 1) := by decide +kernel
theorem dX12_wayLine_25 : decode cX12_wayLine 25 = .ok (.if_icmp .ne 8, 3) := by decide +kernel
theorem dX12_wayLine_28 : decode cX12_wayLine 28 = .ok (.aload_n 0, 1) := by decide +kernel
theorem dX12_wayLine_29 : decode cX12_wayLine 29 = .ok (.iconst 2, 1) := by decide +kernel
theorem dX12_wayLine_30 : decode cX12_wayLine 30 = .ok (.invokevirtual 157, 3) := by decide +kernel
theorem dX12_wayLine_33 : decode cX12_wayLine 33 = .ok (.aload_n 0, 1) := by decide +kernel
theorem dX12_wayLine_34 : decode cX12_wayLine 34 = .ok (.invokevirtual 180, 3) := by decide +kernel
theorem dX12_wayLine_37 : decode cX12_wayLine 37 = .ok (.istore_n 2, 1) := by decide +kernel
theorem dX12_wayLine_38 : decode cX12_wayLine 38 = .ok (.aload_n 0, 1) := by decide +kernel
theorem dX12_wayLine_39 : decode cX12_wayLine 39 = .ok (.iconst 1, 1) := by decide +kernel
theorem dX12_wayLine_40 : decode cX12_wayLine 40 = .ok (.bipush 9, 2) := by decide +kernel
theorem dX12_wayLine_42 : decode cX12_wayLine 42 = .ok (.invokevirtual 164, 3) := by decide +kernel
theorem dX12_wayLine_45 : decode cX12_wayLine 45 = .ok (.istore_n 3, 1) := by decide +kernel
theorem dX12_wayLine_46 : decode cX12_wayLine 46 = .ok (.aload_n 0, 1) := by decide +kernel
theorem dX12_wayLine_47 : decode cX12_wayLine 47 = .ok (.getfield 141, 3) := by decide +kernel
theorem dX12_wayLine_50 : decode cX12_wayLine 50 = .ok (.ifCond .eq 4, 3) := by decide +kernel
theorem dX12_wayLine_53 : decode cX12_wayLine 53 = .ok (.return_, 1) := by decide +kernel
theorem dX12_wayLine_54 : decode cX12_wayLine 54 = .ok (.aload_n 0, 1) := by decide +kernel
theorem dX12_wayLine_55 : decode cX12_wayLine 55 = .ok (.getfield 46, 3) := by decide +kernel
theorem dX12_wayLine_58 : decode cX12_wayLine 58 = .ok (.sipush 144, 3) := by decide +kernel
theorem dX12_wayLine_61 : decode cX12_wayLine 61 = .ok (.bipush 6, 2) := by decide +kernel
theorem dX12_wayLine_63 : decode cX12_wayLine 63 = .ok (.iload_n 1, 1) := by decide +kernel
theorem dX12_wayLine_64 : decode cX12_wayLine 64 = .ok (.imul, 1) := by decide +kernel
theorem dX12_wayLine_65 : decode cX12_wayLine 65 = .ok (.iadd, 1) := by decide +kernel
theorem dX12_wayLine_66 : decode cX12_wayLine 66 = .ok (.iload_n 2, 1) := by decide +kernel
theorem dX12_wayLine_67 : decode cX12_wayLine 67 = .ok (.iadd, 1) := by decide +kernel
theorem dX12_wayLine_68 : decode cX12_wayLine 68 = .ok (.iload_n 3, 1) := by decide +kernel
theorem dX12_wayLine_69 : decode cX12_wayLine 69 = .ok (.iastore, 1) := by decide +kernel
theorem dX12_wayLine_70 : decode cX12_wayLine 70 = .ok (.aload_n 0, 1) := by decide +kernel
theorem dX12_wayLine_71 : decode cX12_wayLine 71 = .ok (.getfield 46, 3) := by decide +kernel
theorem dX12_wayLine_74 : decode cX12_wayLine 74 = .ok (.sipush 144, 3) := by decide +kernel
theorem dX12_wayLine_77 : decode cX12_wayLine 77 = .ok (.bipush 6, 2) := by decide +kernel
theorem dX12_wayLine_79 : decode cX12_wayLine 79 = .ok (.iload_n 2, 1) := by decide +kernel
theorem dX12_wayLine_80 : decode cX12_wayLine 80 = .ok (.imul, 1) := by decide +kernel
theorem dX12_wayLine_81 : decode cX12_wayLine 81 = .ok (.iadd, 1) := by decide +kernel
theorem dX12_wayLine_82 : decode cX12_wayLine 82 = .ok (.iload_n 1, 1) := by decide +kernel
theorem dX12_wayLine_83 : decode cX12_wayLine 83 = .ok (.iadd, 1) := by decide +kernel
theorem dX12_wayLine_84 : decode cX12_wayLine 84 = .ok (.iload_n 3, 1) := by decide +kernel
theorem dX12_wayLine_85 : decode cX12_wayLine 85 = .ok (.iastore, 1) := by decide +kernel
theorem dX12_wayLine_86 : decode cX12_wayLine 86 = .ok (.return_, 1) := by decide +kernel
theorem dX12_askLine_0 : decode cX12_askLine 0 = .ok (.aload_n 0, 1) := by decide +kernel
theorem dX12_askLine_1 : decode cX12_askLine 1 = .ok (.invokevirtual 207, 3) := by decide +kernel
theorem dX12_askLine_4 : decode cX12_askLine 4 = .ok (.istore_n 2, 1) := by decide +kernel
theorem dX12_askLine_5 : decode cX12_askLine 5 = .ok (.aload_n 0, 1) := by decide +kernel
theorem dX12_askLine_6 : decode cX12_askLine 6 = .ok (.getfield 141, 3) := by decide +kernel
theorem dX12_askLine_9 : decode cX12_askLine 9 = .ok (.ifCond .ne 53, 3) := by decide +kernel
theorem dX12_askLine_12 : decode cX12_askLine 12 = .ok (.aload_n 0, 1) := by decide +kernel
theorem dX12_askLine_13 : decode cX12_askLine 13 = .ok (.getfield 130, 3) := by decide +kernel
theorem dX12_askLine_16 : decode cX12_askLine 16 = .ok (.iconst 2, 1) := by decide +kernel
theorem dX12_askLine_17 : decode cX12_askLine 17 = .ok (.if_icmp .ne 45, 3) := by decide +kernel
theorem dX12_askLine_20 : decode cX12_askLine 20 = .ok (.aload_n 0, 1) := by decide +kernel
theorem dX12_askLine_21 : decode cX12_askLine 21 = .ok (.getfield 123, 3) := by decide +kernel
theorem dX12_askLine_24 : decode cX12_askLine 24 = .ok (.aload_n 0, 1) := by decide +kernel
theorem dX12_askLine_25 : decode cX12_askLine 25 = .ok (.iconst 3, 1) := by decide +kernel
theorem dX12_askLine_26 : decode cX12_askLine 26 = .ok (.invokevirtual 171, 3) := by decide +kernel
theorem dX12_askLine_29 : decode cX12_askLine 29 = .ok (.if_icmp .ge 33, 3) := by decide +kernel
theorem dX12_askLine_32 : decode cX12_askLine 32 = .ok (.aload_n 0, 1) := by decide +kernel
theorem dX12_askLine_33 : decode cX12_askLine 33 = .ok (.getfield 123, 3) := by decide +kernel
theorem dX12_askLine_36 : decode cX12_askLine 36 = .ok (.iload_n 2, 1) := by decide +kernel
theorem dX12_askLine_37 : decode cX12_askLine 37 = .ok (.if_icmp .eq 20, 3) := by decide +kernel
theorem dX12_askLine_40 : decode cX12_askLine 40 = .ok (.aload_n 1, 1) := by decide +kernel
theorem dX12_askLine_41 : decode cX12_askLine 41 = .ok (.bipush 32, 2) := by decide +kernel
theorem dX12_askLine_43 : decode cX12_askLine 43 = .ok (.iload_n 2, 1) := by decide +kernel
theorem dX12_askLine_44 : decode cX12_askLine 44 = .ok (.iadd, 1) := by decide +kernel
theorem dX12_askLine_45 : decode cX12_askLine 45 = .ok (.iaload, 1) := by decide +kernel
theorem dX12_askLine_46 : decode cX12_askLine 46 = .ok (.aload_n 0, 1) := by decide +kernel
theorem dX12_askLine_47 : decode cX12_askLine 47 = .ok (.getfield 123, 3) := by decide +kernel
theorem dX12_askLine_50 : decode cX12_askLine 50 = .ok (.ishr, 1) := by decide +kernel
theorem dX12_askLine_51 : decode cX12_askLine 51 = .ok (.iconst 1, 1) := by decide +kernel
theorem dX12_askLine_52 : decode cX12_askLine 52 = .ok (.iand, 1) := by decide +kernel
theorem dX12_askLine_53 : decode cX12_askLine 53 = .ok (.iconst 1, 1) := by decide +kernel
theorem dX12_askLine_54 : decode cX12_askLine 54 = .ok (.if_icmp .ne 8, 3) := by decide +kernel
theorem dX12_askLine_57 : decode cX12_askLine 57 = .ok (.aload_n 0, 1) := by decide +kernel
theorem dX12_askLine_58 : decode cX12_askLine 58 = .ok (.iconst 2, 1) := by decide +kernel
theorem dX12_askLine_59 : decode cX12_askLine 59 = .ok (.invokevirtual 157, 3) := by decide +kernel
theorem dX12_askLine_62 : decode cX12_askLine 62 = .ok (.aload_n 0, 1) := by decide +kernel
theorem dX12_askLine_63 : decode cX12_askLine 63 = .ok (.invokevirtual 207, 3) := by decide +kernel
theorem dX12_askLine_66 : decode cX12_askLine 66 = .ok (.istore_n 3, 1) := by decide +kernel
theorem dX12_askLine_67 : decode cX12_askLine 67 = .ok (.aload_n 0, 1) := by decide +kernel
theorem dX12_askLine_68 : decode cX12_askLine 68 = .ok (.invokevirtual 193, 3) := by decide +kernel
theorem dX12_askLine_71 : decode cX12_askLine 71 = .ok (.ifCond .eq 15, 3) := by decide +kernel
theorem dX12_askLine_74 : decode cX12_askLine 74 = .ok (.aload_n 1, 1) := by decide +kernel
theorem dX12_askLine_75 : decode cX12_askLine 75 = .ok (.bipush 32, 2) := by decide +kernel
theorem dX12_askLine_77 : decode cX12_askLine 77 = .ok (.iload_n 2, 1) := by decide +kernel
theorem dX12_askLine_78 : decode cX12_askLine 78 = .ok (.iadd, 1) := by decide +kernel
theorem dX12_askLine_79 : decode cX12_askLine 79 = .ok (.dup2, 1) := by decide +kernel
theorem dX12_askLine_80 : decode cX12_askLine 80 = .ok (.iaload, 1) := by decide +kernel
theorem dX12_askLine_81 : decode cX12_askLine 81 = .ok (.iconst 1, 1) := by decide +kernel
theorem dX12_askLine_82 : decode cX12_askLine 82 = .ok (.iload_n 3, 1) := by decide +kernel
theorem dX12_askLine_83 : decode cX12_askLine 83 = .ok (.ishl, 1) := by decide +kernel
theorem dX12_askLine_84 : decode cX12_askLine 84 = .ok (.ior, 1) := by decide +kernel
theorem dX12_askLine_85 : decode cX12_askLine 85 = .ok (.iastore, 1) := by decide +kernel
theorem dX12_askLine_86 : decode cX12_askLine 86 = .ok (.return_, 1) := by decide +kernel
theorem dX12_leaveLine_0 : decode cX12_leaveLine 0 = .ok (.aload_n 0, 1) := by decide +kernel
theorem dX12_leaveLine_1 : decode cX12_leaveLine 1 = .ok (.aload_n 0, 1) := by decide +kernel
theorem dX12_leaveLine_2 : decode cX12_leaveLine 2 = .ok (.invokevirtual 207, 3) := by decide +kernel
theorem dX12_leaveLine_5 : decode cX12_leaveLine 5 = .ok (.invokevirtual 175, 3) := by decide +kernel
theorem dX12_leaveLine_8 : decode cX12_leaveLine 8 = .ok (.istore_n 1, 1) := by decide +kernel
theorem dX12_leaveLine_9 : decode cX12_leaveLine 9 = .ok (.aload_n 0, 1) := by decide +kernel
theorem dX12_leaveLine_10 : decode cX12_leaveLine 10 = .ok (.ldc2_w 184, 3) := by decide +kernel
theorem dX12_leaveLine_13 : decode cX12_leaveLine 13 = .ok (.iconst 0, 1) := by decide +kernel
theorem dX12_leaveLine_14 : decode cX12_leaveLine 14 = .ok (.bipush 39, 2) := by decide +kernel
theorem dX12_leaveLine_16 : decode cX12_leaveLine 16 = .ok (.invokevirtual 186, 3) := by decide +kernel
theorem dX12_leaveLine_19 : decode cX12_leaveLine 19 = .ok (.istore_n 2, 1) := by decide +kernel
theorem dX12_leaveLine_20 : decode cX12_leaveLine 20 = .ok (.aload_n 0, 1) := by decide +kernel
theorem dX12_leaveLine_21 : decode cX12_leaveLine 21 = .ok (.ldc2_w 189, 3) := by decide +kernel
theorem dX12_leaveLine_24 : decode cX12_leaveLine 24 = .ok (.iload_n 2, 1) := by decide +kernel
theorem dX12_leaveLine_25 : decode cX12_leaveLine 25 = .ok (.bipush 39, 2) := by decide +kernel
theorem dX12_leaveLine_27 : decode cX12_leaveLine 27 = .ok (.invokevirtual 186, 3) := by decide +kernel
theorem dX12_leaveLine_30 : decode cX12_leaveLine 30 = .ok (.istore_n 3, 1) := by decide +kernel
theorem dX12_leaveLine_31 : decode cX12_leaveLine 31 = .ok (.aload_n 0, 1) := by decide +kernel
theorem dX12_leaveLine_32 : decode cX12_leaveLine 32 = .ok (.getfield 141, 3) := by decide +kernel
theorem dX12_leaveLine_35 : decode cX12_leaveLine 35 = .ok (.ifCond .eq 4, 3) := by decide +kernel
theorem dX12_leaveLine_38 : decode cX12_leaveLine 38 = .ok (.return_, 1) := by decide +kernel
theorem dX12_leaveLine_39 : decode cX12_leaveLine 39 = .ok (.aload_n 0, 1) := by decide +kernel
theorem dX12_leaveLine_40 : decode cX12_leaveLine 40 = .ok (.getfield 37, 3) := by decide +kernel
theorem dX12_leaveLine_43 : decode cX12_leaveLine 43 = .ok (.iload_n 1, 1) := by decide +kernel
theorem dX12_leaveLine_44 : decode cX12_leaveLine 44 = .ok (.bipush 7, 2) := by decide +kernel
theorem dX12_leaveLine_46 : decode cX12_leaveLine 46 = .ok (.iadd, 1) := by decide +kernel
theorem dX12_leaveLine_47 : decode cX12_leaveLine 47 = .ok (.iload_n 2, 1) := by decide +kernel
theorem dX12_leaveLine_48 : decode cX12_leaveLine 48 = .ok (.iastore, 1) := by decide +kernel
theorem dX12_leaveLine_49 : decode cX12_leaveLine 49 = .ok (.aload_n 0, 1) := by decide +kernel
theorem dX12_leaveLine_50 : decode cX12_leaveLine 50 = .ok (.getfield 37, 3) := by decide +kernel
theorem dX12_leaveLine_53 : decode cX12_leaveLine 53 = .ok (.iload_n 1, 1) := by decide +kernel
theorem dX12_leaveLine_54 : decode cX12_leaveLine 54 = .ok (.bipush 8, 2) := by decide +kernel
theorem dX12_leaveLine_56 : decode cX12_leaveLine 56 = .ok (.iadd, 1) := by decide +kernel
theorem dX12_leaveLine_57 : decode cX12_leaveLine 57 = .ok (.iload_n 3, 1) := by decide +kernel
theorem dX12_leaveLine_58 : decode cX12_leaveLine 58 = .ok (.iastore, 1) := by decide +kernel
theorem dX12_leaveLine_59 : decode cX12_leaveLine 59 = .ok (.return_, 1) := by decide +kernel
theorem dX12_line_0 : decode cX12_line 0 = .ok (.aload_n 0, 1) := by decide +kernel
theorem dX12_line_1 : decode cX12_line 1 = .ok (.ldc2_w 210, 3) := by decide +kernel
theorem dX12_line_4 : decode cX12_line 4 = .ok (.invokevirtual 147, 3) := by decide +kernel
theorem dX12_line_7 : decode cX12_line 7 = .ok (.istore_n 1, 1) := by decide +kernel
theorem dX12_line_8 : decode cX12_line 8 = .ok (.iload_n 1, 1) := by decide +kernel
theorem dX12_line_9 : decode cX12_line 9 = .ok (.ifCond .eq 18, 3) := by decide +kernel
theorem dX12_line_12 : decode cX12_line 12 = .ok (.aload_n 0, 1) := by decide +kernel
theorem dX12_line_13 : decode cX12_line 13 = .ok (.iconst 3, 1) := by decide +kernel
theorem dX12_line_14 : decode cX12_line 14 = .ok (.invokevirtual 171, 3) := by decide +kernel
theorem dX12_line_17 : decode cX12_line 17 = .ok (.bipush 8, 2) := by decide +kernel
theorem dX12_line_19 : decode cX12_line 19 = .ok (.if_icmp .ne 8, 3) := by decide +kernel
theorem dX12_line_22 : decode cX12_line 22 = .ok (.aload_n 0, 1) := by decide +kernel
theorem dX12_line_23 : decode cX12_line 23 = .ok (.iconst 3, 1) := by decide +kernel
theorem dX12_line_24 : decode cX12_line 24 = .ok (.invokevirtual 157, 3) := by decide +kernel
theorem dX12_line_27 : decode cX12_line 27 = .ok (.aload_n 0, 1) := by decide +kernel
theorem dX12_line_28 : decode cX12_line 28 = .ok (.getfield 141, 3) := by decide +kernel
theorem dX12_line_31 : decode cX12_line 31 = .ok (.ifCond .eq 4, 3) := by decide +kernel
theorem dX12_line_34 : decode cX12_line 34 = .ok (.return_, 1) := by decide +kernel
theorem dX12_line_35 : decode cX12_line 35 = .ok (.aload_n 0, 1) := by decide +kernel
theorem dX12_line_36 : decode cX12_line 36 = .ok (.ldc2_w 212, 3) := by decide +kernel
theorem dX12_line_39 : decode cX12_line 39 = .ok (.invokevirtual 147, 3) := by decide +kernel
theorem dX12_line_42 : decode cX12_line 42 = .ok (.istore_n 2, 1) := by decide +kernel
theorem dX12_line_43 : decode cX12_line 43 = .ok (.iload_n 1, 1) := by decide +kernel
theorem dX12_line_44 : decode cX12_line 44 = .ok (.ifCond .eq 14, 3) := by decide +kernel
theorem dX12_line_47 : decode cX12_line 47 = .ok (.aload_n 0, 1) := by decide +kernel
theorem dX12_line_48 : decode cX12_line 48 = .ok (.invokevirtual 151, 3) := by decide +kernel
theorem dX12_line_51 : decode cX12_line 51 = .ok (.aload_n 0, 1) := by decide +kernel
theorem dX12_line_52 : decode cX12_line 52 = .ok (.invokevirtual 214, 3) := by decide +kernel
theorem dX12_line_55 : decode cX12_line 55 = .ok (.goto 123, 3) := by decide +kernel
theorem dX12_line_58 : decode cX12_line 58 = .ok (.iload_n 2, 1) := by decide +kernel
theorem dX12_line_59 : decode cX12_line 59 = .ok (.ifCond .ne 13, 3) := by decide +kernel
theorem dX12_line_62 : decode cX12_line 62 = .ok (.aload_n 0, 1) := by decide +kernel
theorem dX12_line_63 : decode cX12_line 63 = .ok (.ldc2_w 217, 3) := by decide +kernel
theorem dX12_line_66 : decode cX12_line 66 = .ok (.invokevirtual 147, 3) := by decide +kernel
theorem dX12_line_69 : decode cX12_line 69 = .ok (.ifCond .eq 29, 3) := by decide +kernel
theorem dX12_line_72 : decode cX12_line 72 = .ok (.aload_n 0, 1) := by decide +kernel
theorem dX12_line_73 : decode cX12_line 73 = .ok (.invokevirtual 151, 3) := by decide +kernel
theorem dX12_line_76 : decode cX12_line 76 = .ok (.aload_n 0, 1) := by decide +kernel
theorem dX12_line_77 : decode cX12_line 77 = .ok (.iload_n 2, 1) := by decide +kernel
theorem dX12_line_78 : decode cX12_line 78 = .ok (.ifCond .eq 10, 3) := by decide +kernel
theorem dX12_line_81 : decode cX12_line 81 = .ok (.aload_n 0, 1) := by decide +kernel
theorem dX12_line_82 : decode cX12_line 82 = .ok (.getfield 40, 3) := by decide +kernel
theorem dX12_line_85 : decode cX12_line 85 = .ok (.goto 7, 3) := by decide +kernel
theorem dX12_line_88 : decode cX12_line 88 = .ok (.aload_n 0, 1) := by decide +kernel
theorem dX12_line_89 : decode cX12_line 89 = .ok (.getfield 43, 3) := by decide +kernel
theorem dX12_line_92 : decode cX12_line 92 = .ok (.invokevirtual 219, 3) := by decide +kernel
theorem dX12_line_95 : decode cX12_line 95 = .ok (.goto 83, 3) := by decide +kernel
theorem dX12_line_98 : decode cX12_line 98 = .ok (.aload_n 0, 1) := by decide +kernel
theorem dX12_line_99 : decode cX12_line 99 = .ok (.ldc2_w 223, 3) := by decide +kernel
theorem dX12_line_102 : decode cX12_line 102 = .ok (.invokevirtual 154, 3) := by decide +kernel
theorem dX12_line_105 : decode cX12_line 105 = .ok (.ifCond .eq 10, 3) := by decide +kernel
theorem dX12_line_108 : decode cX12_line 108 = .ok (.aload_n 0, 1) := by decide +kernel
theorem dX12_line_109 : decode cX12_line 109 = .ok (.invokevirtual 225, 3) := by decide +kernel
theorem dX12_line_112 : decode cX12_line 112 = .ok (.goto 66, 3) := by decide +kernel
theorem dX12_line_115 : decode cX12_line 115 = .ok (.aload_n 0, 1) := by decide +kernel
theorem dX12_line_116 : decode cX12_line 116 = .ok (.ldc2_w 228, 3) := by decide +kernel
theorem dX12_line_119 : decode cX12_line 119 = .ok (.invokevirtual 154, 3) := by decide +kernel
theorem dX12_line_122 : decode cX12_line 122 = .ok (.ifCond .eq 10, 3) := by decide +kernel
theorem dX12_line_125 : decode cX12_line 125 = .ok (.aload_n 0, 1) := by decide +kernel
theorem dX12_line_126 : decode cX12_line 126 = .ok (.invokevirtual 230, 3) := by decide +kernel
theorem dX12_line_129 : decode cX12_line 129 = .ok (.goto 49, 3) := by decide +kernel
theorem dX12_line_132 : decode cX12_line 132 = .ok (.aload_n 0, 1) := by decide +kernel
theorem dX12_line_133 : decode cX12_line 133 = .ok (.ldc2_w 233, 3) := by decide +kernel
theorem dX12_line_136 : decode cX12_line 136 = .ok (.invokevirtual 160, 3) := by decide +kernel
theorem dX12_line_139 : decode cX12_line 139 = .ok (.iconst 0, 1) := by decide +kernel
theorem dX12_line_140 : decode cX12_line 140 = .ok (.istore_n 3, 1) := by decide +kernel
theorem dX12_line_141 : decode cX12_line 141 = .ok (.iload_n 3, 1) := by decide +kernel
theorem dX12_line_142 : decode cX12_line 142 = .ok (.iconst 1, 1) := by decide +kernel
theorem dX12_line_143 : decode cX12_line 143 = .ok (.aload_n 0, 1) := by decide +kernel
theorem dX12_line_144 : decode cX12_line 144 = .ok (.invokevirtual 207, 3) := by decide +kernel
theorem dX12_line_147 : decode cX12_line 147 = .ok (.ishl, 1) := by decide +kernel
theorem dX12_line_148 : decode cX12_line 148 = .ok (.ior, 1) := by decide +kernel
theorem dX12_line_149 : decode cX12_line 149 = .ok (.istore_n 3, 1) := by decide +kernel
theorem dX12_line_150 : decode cX12_line 150 = .ok (.aload_n 0, 1) := by decide +kernel
theorem dX12_line_151 : decode cX12_line 151 = .ok (.invokevirtual 193, 3) := by decide +kernel
theorem dX12_line_154 : decode cX12_line 154 = .ok (.ifCond .eq 11, 3) := by decide +kernel
theorem dX12_line_157 : decode cX12_line 157 = .ok (.aload_n 0, 1) := by decide +kernel
theorem dX12_line_158 : decode cX12_line 158 = .ok (.getfield 130, 3) := by decide +kernel
theorem dX12_line_161 : decode cX12_line 161 = .ok (.iconst 2, 1) := by decide +kernel
theorem dX12_line_162 : decode cX12_line 162 = .ok (.if_icmp .eq (-21), 3) := by decide +kernel
theorem dX12_line_165 : decode cX12_line 165 = .ok (.aload_n 0, 1) := by decide +kernel
theorem dX12_line_166 : decode cX12_line 166 = .ok (.invokevirtual 193, 3) := by decide +kernel
theorem dX12_line_169 : decode cX12_line 169 = .ok (.ifCond .eq 9, 3) := by decide +kernel
theorem dX12_line_172 : decode cX12_line 172 = .ok (.aload_n 0, 1) := by decide +kernel
theorem dX12_line_173 : decode cX12_line 173 = .ok (.iconst 4, 1) := by decide +kernel
theorem dX12_line_174 : decode cX12_line 174 = .ok (.iload_n 3, 1) := by decide +kernel
theorem dX12_line_175 : decode cX12_line 175 = .ok (.invokevirtual 203, 3) := by decide +kernel
theorem dX12_line_178 : decode cX12_line 178 = .ok (.return_, 1) := by decide +kernel
theorem dX12_clears_0 : decode cX12_clears 0 = .ok (.aload_n 0, 1) := by decide +kernel
theorem dX12_clears_1 : decode cX12_clears 1 = .ok (.getfield 31, 3) := by decide +kernel
theorem dX12_clears_4 : decode cX12_clears 4 = .ok (.iconst 4, 1) := by decide +kernel
theorem dX12_clears_5 : decode cX12_clears 5 = .ok (.iconst 0, 1) := by decide +kernel
theorem dX12_clears_6 : decode cX12_clears 6 = .ok (.iastore, 1) := by decide +kernel
theorem dX12_clears_7 : decode cX12_clears 7 = .ok (.iconst 0, 1) := by decide +kernel
theorem dX12_clears_8 : decode cX12_clears 8 = .ok (.istore_n 1, 1) := by decide +kernel
theorem dX12_clears_9 : decode cX12_clears 9 = .ok (.iload_n 1, 1) := by decide +kernel
theorem dX12_clears_10 : decode cX12_clears 10 = .ok (.bipush 6, 2) := by decide +kernel
theorem dX12_clears_12 : decode cX12_clears 12 = .ok (.if_icmp .ge 15, 3) := by decide +kernel
theorem dX12_clears_15 : decode cX12_clears 15 = .ok (.aload_n 0, 1) := by decide +kernel
theorem dX12_clears_16 : decode cX12_clears 16 = .ok (.iload_n 1, 1) := by decide +kernel
theorem dX12_clears_17 : decode cX12_clears 17 = .ok (.iconst 0, 1) := by decide +kernel
theorem dX12_clears_18 : decode cX12_clears 18 = .ok (.invokevirtual 203, 3) := by decide +kernel
theorem dX12_clears_21 : decode cX12_clears 21 = .ok (.iinc 1 1, 3) := by decide +kernel
theorem dX12_clears_24 : decode cX12_clears 24 = .ok (.goto (-15), 3) := by decide +kernel
theorem dX12_clears_27 : decode cX12_clears 27 = .ok (.iconst 0, 1) := by decide +kernel
theorem dX12_clears_28 : decode cX12_clears 28 = .ok (.istore_n 1, 1) := by decide +kernel
theorem dX12_clears_29 : decode cX12_clears 29 = .ok (.iload_n 1, 1) := by decide +kernel
theorem dX12_clears_30 : decode cX12_clears 30 = .ok (.bipush 36, 2) := by decide +kernel
theorem dX12_clears_32 : decode cX12_clears 32 = .ok (.if_icmp .ge 20, 3) := by decide +kernel
theorem dX12_clears_35 : decode cX12_clears 35 = .ok (.aload_n 0, 1) := by decide +kernel
theorem dX12_clears_36 : decode cX12_clears 36 = .ok (.getfield 46, 3) := by decide +kernel
theorem dX12_clears_39 : decode cX12_clears 39 = .ok (.sipush 144, 3) := by decide +kernel
theorem dX12_clears_42 : decode cX12_clears 42 = .ok (.iload_n 1, 1) := by decide +kernel
theorem dX12_clears_43 : decode cX12_clears 43 = .ok (.iadd, 1) := by decide +kernel
theorem dX12_clears_44 : decode cX12_clears 44 = .ok (.iconst 0, 1) := by decide +kernel
theorem dX12_clears_45 : decode cX12_clears 45 = .ok (.iastore, 1) := by decide +kernel
theorem dX12_clears_46 : decode cX12_clears 46 = .ok (.iinc 1 1, 3) := by decide +kernel
theorem dX12_clears_49 : decode cX12_clears 49 = .ok (.goto (-20), 3) := by decide +kernel
theorem dX12_clears_52 : decode cX12_clears 52 = .ok (.return_, 1) := by decide +kernel
theorem dX12_office_0 : decode cX12_office 0 = .ok (.aload_n 0, 1) := by decide +kernel
theorem dX12_office_1 : decode cX12_office 1 = .ok (.iconst 0, 1) := by decide +kernel
theorem dX12_office_2 : decode cX12_office 2 = .ok (.putfield 89, 3) := by decide +kernel
theorem dX12_office_5 : decode cX12_office 5 = .ok (.aload_n 0, 1) := by decide +kernel
theorem dX12_office_6 : decode cX12_office 6 = .ok (.invokevirtual 235, 3) := by decide +kernel
theorem dX12_office_9 : decode cX12_office 9 = .ok (.aload_n 0, 1) := by decide +kernel
theorem dX12_office_10 : decode cX12_office 10 = .ok (.invokevirtual 238, 3) := by decide +kernel
theorem dX12_office_13 : decode cX12_office 13 = .ok (.aload_n 0, 1) := by decide +kernel
theorem dX12_office_14 : decode cX12_office 14 = .ok (.invokevirtual 193, 3) := by decide +kernel
theorem dX12_office_17 : decode cX12_office 17 = .ok (.ifCond .eq 104, 3) := by decide +kernel
theorem dX12_office_20 : decode cX12_office 20 = .ok (.aload_n 0, 1) := by decide +kernel
theorem dX12_office_21 : decode cX12_office 21 = .ok (.getfield 130, 3) := by decide +kernel
theorem dX12_office_24 : decode cX12_office 24 = .ok (.ifCond .eq 97, 3) := by decide +kernel
theorem dX12_office_27 : decode cX12_office 27 = .ok (.aload_n 0, 1) := by decide +kernel
theorem dX12_office_28 : decode cX12_office 28 = .ok (.getfield 31, 3) := by decide +kernel
theorem dX12_office_31 : decode cX12_office 31 = .ok (.iconst 4, 1) := by decide +kernel
theorem dX12_office_32 : decode cX12_office 32 = .ok (.iaload, 1) := by decide +kernel
theorem dX12_office_33 : decode cX12_office 33 = .ok (.ifCond .ne 60, 3) := by decide +kernel
theorem dX12_office_36 : decode cX12_office 36 = .ok (.aload_n 0, 1) := by decide +kernel
theorem dX12_office_37 : decode cX12_office 37 = .ok (.ldc2_w 241, 3) := by decide +kernel
theorem dX12_office_40 : decode cX12_office 40 = .ok (.invokevirtual 160, 3) := by decide +kernel
theorem dX12_office_43 : decode cX12_office 43 = .ok (.aload_n 0, 1) := by decide +kernel
theorem dX12_office_44 : decode cX12_office 44 = .ok (.iconst 0, 1) := by decide +kernel
theorem dX12_office_45 : decode cX12_office 45 = .ok (.aload_n 0, 1) := by decide +kernel
theorem dX12_office_46 : decode cX12_office 46 = .ok (.ldc2_w 243, 3) := by decide +kernel
theorem dX12_office_49 : decode cX12_office 49 = .ok (.iconst 1, 1) := by decide +kernel
theorem dX12_office_50 : decode cX12_office 50 = .ok (.bipush 6, 2) := by decide +kernel
theorem dX12_office_52 : decode cX12_office 52 = .ok (.invokevirtual 186, 3) := by decide +kernel
theorem dX12_office_55 : decode cX12_office 55 = .ok (.invokevirtual 203, 3) := by decide +kernel
theorem dX12_office_58 : decode cX12_office 58 = .ok (.aload_n 0, 1) := by decide +kernel
theorem dX12_office_59 : decode cX12_office 59 = .ok (.ldc2_w 245, 3) := by decide +kernel
theorem dX12_office_62 : decode cX12_office 62 = .ok (.invokevirtual 160, 3) := by decide +kernel
theorem dX12_office_65 : decode cX12_office 65 = .ok (.aload_n 0, 1) := by decide +kernel
theorem dX12_office_66 : decode cX12_office 66 = .ok (.iconst 1, 1) := by decide +kernel
theorem dX12_office_67 : decode cX12_office 67 = .ok (.aload_n 0, 1) := by decide +kernel
theorem dX12_office_68 : decode cX12_office 68 = .ok (.invokevirtual 180, 3) := by decide +kernel
theorem dX12_office_71 : decode cX12_office 71 = .ok (.invokevirtual 203, 3) := by decide +kernel
theorem dX12_office_74 : decode cX12_office 74 = .ok (.aload_n 0, 1) := by decide +kernel
theorem dX12_office_75 : decode cX12_office 75 = .ok (.iconst 2, 1) := by decide +kernel
theorem dX12_office_76 : decode cX12_office 76 = .ok (.aload_n 0, 1) := by decide +kernel
theorem dX12_office_77 : decode cX12_office 77 = .ok (.ldc2_w 247, 3) := by decide +kernel
theorem dX12_office_80 : decode cX12_office 80 = .ok (.iconst 0, 1) := by decide +kernel
theorem dX12_office_81 : decode cX12_office 81 = .ok (.sipush 399, 3) := by decide +kernel
theorem dX12_office_84 : decode cX12_office 84 = .ok (.invokevirtual 186, 3) := by decide +kernel
theorem dX12_office_87 : decode cX12_office 87 = .ok (.invokevirtual 203, 3) := by decide +kernel
theorem dX12_office_90 : decode cX12_office 90 = .ok (.goto 7, 3) := by decide +kernel
theorem dX12_office_93 : decode cX12_office 93 = .ok (.aload_n 0, 1) := by decide +kernel
theorem dX12_office_94 : decode cX12_office 94 = .ok (.invokevirtual 249, 3) := by decide +kernel
theorem dX12_office_97 : decode cX12_office 97 = .ok (.aload_n 0, 1) := by decide +kernel
theorem dX12_office_98 : decode cX12_office 98 = .ok (.invokevirtual 193, 3) := by decide +kernel
theorem dX12_office_101 : decode cX12_office 101 = .ok (.ifCond .eq 7, 3) := by decide +kernel
theorem dX12_office_104 : decode cX12_office 104 = .ok (.aload_n 0, 1) := by decide +kernel
theorem dX12_office_105 : decode cX12_office 105 = .ok (.invokevirtual 252, 3) := by decide +kernel
theorem dX12_office_108 : decode cX12_office 108 = .ok (.aload_n 0, 1) := by decide +kernel
theorem dX12_office_109 : decode cX12_office 109 = .ok (.getfield 31, 3) := by decide +kernel
theorem dX12_office_112 : decode cX12_office 112 = .ok (.iconst 4, 1) := by decide +kernel
theorem dX12_office_113 : decode cX12_office 113 = .ok (.dup2, 1) := by decide +kernel
theorem dX12_office_114 : decode cX12_office 114 = .ok (.iaload, 1) := by decide +kernel
theorem dX12_office_115 : decode cX12_office 115 = .ok (.iconst 1, 1) := by decide +kernel
theorem dX12_office_116 : decode cX12_office 116 = .ok (.iadd, 1) := by decide +kernel
theorem dX12_office_117 : decode cX12_office 117 = .ok (.iastore, 1) := by decide +kernel
theorem dX12_office_118 : decode cX12_office 118 = .ok (.goto (-105), 3) := by decide +kernel
theorem dX12_office_121 : decode cX12_office 121 = .ok (.aload_n 0, 1) := by decide +kernel
theorem dX12_office_122 : decode cX12_office 122 = .ok (.invokevirtual 255, 3) := by decide +kernel
theorem dX12_office_125 : decode cX12_office 125 = .ok (.aload_n 0, 1) := by decide +kernel
theorem dX12_office_126 : decode cX12_office 126 = .ok (.getfield 141, 3) := by decide +kernel
theorem dX12_office_129 : decode cX12_office 129 = .ok (.ifCond .eq 6, 3) := by decide +kernel
theorem dX12_office_132 : decode cX12_office 132 = .ok (.bipush (-4), 2) := by decide +kernel
theorem dX12_office_134 : decode cX12_office 134 = .ok (.ireturn, 1) := by decide +kernel
theorem dX12_office_135 : decode cX12_office 135 = .ok (.aload_n 0, 1) := by decide +kernel
theorem dX12_office_136 : decode cX12_office 136 = .ok (.iconst 4, 1) := by decide +kernel
theorem dX12_office_137 : decode cX12_office 137 = .ok (.iconst 0, 1) := by decide +kernel
theorem dX12_office_138 : decode cX12_office 138 = .ok (.invokevirtual 258, 3) := by decide +kernel
theorem dX12_office_141 : decode cX12_office 141 = .ok (.aload_n 0, 1) := by decide +kernel
theorem dX12_office_142 : decode cX12_office 142 = .ok (.getfield 31, 3) := by decide +kernel
theorem dX12_office_145 : decode cX12_office 145 = .ok (.iconst 0, 1) := by decide +kernel
theorem dX12_office_146 : decode cX12_office 146 = .ok (.iaload, 1) := by decide +kernel
theorem dX12_office_147 : decode cX12_office 147 = .ok (.ireturn, 1) := by decide +kernel
theorem dX12_copyRow_0 : decode cX12_copyRow 0 = .ok (.iconst 0, 1) := by decide +kernel
theorem dX12_copyRow_1 : decode cX12_copyRow 1 = .ok (.istore 4, 2) := by decide +kernel
theorem dX12_copyRow_3 : decode cX12_copyRow 3 = .ok (.iload 4, 2) := by decide +kernel
theorem dX12_copyRow_5 : decode cX12_copyRow 5 = .ok (.iload_n 1, 1) := by decide +kernel
theorem dX12_copyRow_6 : decode cX12_copyRow 6 = .ok (.if_icmp .ge 25, 3) := by decide +kernel
theorem dX12_copyRow_9 : decode cX12_copyRow 9 = .ok (.aload_n 0, 1) := by decide +kernel
theorem dX12_copyRow_10 : decode cX12_copyRow 10 = .ok (.iload_n 1, 1) := by decide +kernel
theorem dX12_copyRow_11 : decode cX12_copyRow 11 = .ok (.iload_n 3, 1) := by decide +kernel
theorem dX12_copyRow_12 : decode cX12_copyRow 12 = .ok (.imul, 1) := by decide +kernel
theorem dX12_copyRow_13 : decode cX12_copyRow 13 = .ok (.iload 4, 2) := by decide +kernel
theorem dX12_copyRow_15 : decode cX12_copyRow 15 = .ok (.iadd, 1) := by decide +kernel
theorem dX12_copyRow_16 : decode cX12_copyRow 16 = .ok (.aload_n 0, 1) := by decide +kernel
theorem dX12_copyRow_17 : decode cX12_copyRow 17 = .ok (.iload_n 1, 1) := by decide +kernel
theorem dX12_copyRow_18 : decode cX12_copyRow 18 = .ok (.iload_n 2, 1) := by decide +kernel
theorem dX12_copyRow_19 : decode cX12_copyRow 19 = .ok (.imul, 1) := by decide +kernel
theorem dX12_copyRow_20 : decode cX12_copyRow 20 = .ok (.iload 4, 2) := by decide +kernel
theorem dX12_copyRow_22 : decode cX12_copyRow 22 = .ok (.iadd, 1) := by decide +kernel
theorem dX12_copyRow_23 : decode cX12_copyRow 23 = .ok (.iaload, 1) := by decide +kernel
theorem dX12_copyRow_24 : decode cX12_copyRow 24 = .ok (.iastore, 1) := by decide +kernel
theorem dX12_copyRow_25 : decode cX12_copyRow 25 = .ok (.iinc 4 1, 3) := by decide +kernel
theorem dX12_copyRow_28 : decode cX12_copyRow 28 = .ok (.goto (-25), 3) := by decide +kernel
theorem dX12_copyRow_31 : decode cX12_copyRow 31 = .ok (.return_, 1) := by decide +kernel
theorem dX12_copyOffice_0 : decode cX12_copyOffice 0 = .ok (.aload_n 0, 1) := by decide +kernel
theorem dX12_copyOffice_1 : decode cX12_copyOffice 1 = .ok (.getfield 31, 3) := by decide +kernel
theorem dX12_copyOffice_4 : decode cX12_copyOffice 4 = .ok (.iconst 1, 1) := by decide +kernel
theorem dX12_copyOffice_5 : decode cX12_copyOffice 5 = .ok (.iload_n 1, 1) := by decide +kernel
theorem dX12_copyOffice_6 : decode cX12_copyOffice 6 = .ok (.iload_n 2, 1) := by decide +kernel
theorem dX12_copyOffice_7 : decode cX12_copyOffice 7 = .ok (.invokestatic 261, 3) := by decide +kernel
theorem dX12_copyOffice_10 : decode cX12_copyOffice 10 = .ok (.aload_n 0, 1) := by decide +kernel
theorem dX12_copyOffice_11 : decode cX12_copyOffice 11 = .ok (.getfield 34, 3) := by decide +kernel
theorem dX12_copyOffice_14 : decode cX12_copyOffice 14 = .ok (.bipush 6, 2) := by decide +kernel
theorem dX12_copyOffice_16 : decode cX12_copyOffice 16 = .ok (.iload_n 1, 1) := by decide +kernel
theorem dX12_copyOffice_17 : decode cX12_copyOffice 17 = .ok (.iload_n 2, 1) := by decide +kernel
theorem dX12_copyOffice_18 : decode cX12_copyOffice 18 = .ok (.invokestatic 261, 3) := by decide +kernel
theorem dX12_copyOffice_21 : decode cX12_copyOffice 21 = .ok (.aload_n 0, 1) := by decide +kernel
theorem dX12_copyOffice_22 : decode cX12_copyOffice 22 = .ok (.getfield 37, 3) := by decide +kernel
theorem dX12_copyOffice_25 : decode cX12_copyOffice 25 = .ok (.bipush 72, 2) := by decide +kernel
theorem dX12_copyOffice_27 : decode cX12_copyOffice 27 = .ok (.iload_n 1, 1) := by decide +kernel
theorem dX12_copyOffice_28 : decode cX12_copyOffice 28 = .ok (.iload_n 2, 1) := by decide +kernel
theorem dX12_copyOffice_29 : decode cX12_copyOffice 29 = .ok (.invokestatic 261, 3) := by decide +kernel
theorem dX12_copyOffice_32 : decode cX12_copyOffice 32 = .ok (.aload_n 0, 1) := by decide +kernel
theorem dX12_copyOffice_33 : decode cX12_copyOffice 33 = .ok (.getfield 40, 3) := by decide +kernel
theorem dX12_copyOffice_36 : decode cX12_copyOffice 36 = .ok (.bipush 8, 2) := by decide +kernel
theorem dX12_copyOffice_38 : decode cX12_copyOffice 38 = .ok (.iload_n 1, 1) := by decide +kernel
theorem dX12_copyOffice_39 : decode cX12_copyOffice 39 = .ok (.iload_n 2, 1) := by decide +kernel
theorem dX12_copyOffice_40 : decode cX12_copyOffice 40 = .ok (.invokestatic 261, 3) := by decide +kernel
theorem dX12_copyOffice_43 : decode cX12_copyOffice 43 = .ok (.aload_n 0, 1) := by decide +kernel
theorem dX12_copyOffice_44 : decode cX12_copyOffice 44 = .ok (.getfield 43, 3) := by decide +kernel
theorem dX12_copyOffice_47 : decode cX12_copyOffice 47 = .ok (.bipush 8, 2) := by decide +kernel
theorem dX12_copyOffice_49 : decode cX12_copyOffice 49 = .ok (.iload_n 1, 1) := by decide +kernel
theorem dX12_copyOffice_50 : decode cX12_copyOffice 50 = .ok (.iload_n 2, 1) := by decide +kernel
theorem dX12_copyOffice_51 : decode cX12_copyOffice 51 = .ok (.invokestatic 261, 3) := by decide +kernel
theorem dX12_copyOffice_54 : decode cX12_copyOffice 54 = .ok (.aload_n 0, 1) := by decide +kernel
theorem dX12_copyOffice_55 : decode cX12_copyOffice 55 = .ok (.getfield 46, 3) := by decide +kernel
theorem dX12_copyOffice_58 : decode cX12_copyOffice 58 = .ok (.bipush 36, 2) := by decide +kernel
theorem dX12_copyOffice_60 : decode cX12_copyOffice 60 = .ok (.iload_n 1, 1) := by decide +kernel
theorem dX12_copyOffice_61 : decode cX12_copyOffice 61 = .ok (.iload_n 2, 1) := by decide +kernel
theorem dX12_copyOffice_62 : decode cX12_copyOffice 62 = .ok (.invokestatic 261, 3) := by decide +kernel
theorem dX12_copyOffice_65 : decode cX12_copyOffice 65 = .ok (.aload_n 0, 1) := by decide +kernel
theorem dX12_copyOffice_66 : decode cX12_copyOffice 66 = .ok (.getfield 49, 3) := by decide +kernel
theorem dX12_copyOffice_69 : decode cX12_copyOffice 69 = .ok (.bipush 40, 2) := by decide +kernel
theorem dX12_copyOffice_71 : decode cX12_copyOffice 71 = .ok (.iload_n 1, 1) := by decide +kernel
theorem dX12_copyOffice_72 : decode cX12_copyOffice 72 = .ok (.iload_n 2, 1) := by decide +kernel
theorem dX12_copyOffice_73 : decode cX12_copyOffice 73 = .ok (.invokestatic 261, 3) := by decide +kernel
theorem dX12_copyOffice_76 : decode cX12_copyOffice 76 = .ok (.return_, 1) := by decide +kernel
theorem dX12_isOffice_0 : decode cX12_isOffice 0 = .ok (.aload_n 0, 1) := by decide +kernel
theorem dX12_isOffice_1 : decode cX12_isOffice 1 = .ok (.getfield 31, 3) := by decide +kernel
theorem dX12_isOffice_4 : decode cX12_isOffice 4 = .ok (.iconst 0, 1) := by decide +kernel
theorem dX12_isOffice_5 : decode cX12_isOffice 5 = .ok (.iaload, 1) := by decide +kernel
theorem dX12_isOffice_6 : decode cX12_isOffice 6 = .ok (.ifCond .le 7, 3) := by decide +kernel
theorem dX12_isOffice_9 : decode cX12_isOffice 9 = .ok (.iconst 1, 1) := by decide +kernel
theorem dX12_isOffice_10 : decode cX12_isOffice 10 = .ok (.goto 4, 3) := by decide +kernel
theorem dX12_isOffice_13 : decode cX12_isOffice 13 = .ok (.iconst 0, 1) := by decide +kernel
theorem dX12_isOffice_14 : decode cX12_isOffice 14 = .ok (.ireturn, 1) := by decide +kernel
theorem dX12_isOfficial_0 : decode cX12_isOfficial 0 = .ok (.lload_n 1, 1) := by decide +kernel
theorem dX12_isOfficial_1 : decode cX12_isOfficial 1 = .ok (.lconst 0, 1) := by decide +kernel
theorem dX12_isOfficial_2 : decode cX12_isOfficial 2 = .ok (.aload_n 0, 1) := by decide +kernel
theorem dX12_isOfficial_3 : decode cX12_isOfficial 3 = .ok (.getfield 34, 3) := by decide +kernel
theorem dX12_isOfficial_6 : decode cX12_isOfficial 6 = .ok (.iconst 3, 1) := by decide +kernel
theorem dX12_isOfficial_7 : decode cX12_isOfficial 7 = .ok (.iaload, 1) := by decide +kernel
theorem dX12_isOfficial_8 : decode cX12_isOfficial 8 = .ok (.i2l, 1) := by decide +kernel
theorem dX12_isOfficial_9 : decode cX12_isOfficial 9 = .ok (.lconst 1, 1) := by decide +kernel
theorem dX12_isOfficial_10 : decode cX12_isOfficial 10 = .ok (.lsub, 1) := by decide +kernel
theorem dX12_isOfficial_11 : decode cX12_isOfficial 11 = .ok (.invokestatic 94, 3) := by decide +kernel
theorem dX12_isOfficial_14 : decode cX12_isOfficial 14 = .ok (.ireturn, 1) := by decide +kernel
theorem dX12_isRoom_0 : decode cX12_isRoom 0 = .ok (.iload_n 1, 1) := by decide +kernel
theorem dX12_isRoom_1 : decode cX12_isRoom 1 = .ok (.i2l, 1) := by decide +kernel
theorem dX12_isRoom_2 : decode cX12_isRoom 2 = .ok (.lconst 0, 1) := by decide +kernel
theorem dX12_isRoom_3 : decode cX12_isRoom 3 = .ok (.aload_n 0, 1) := by decide +kernel
theorem dX12_isRoom_4 : decode cX12_isRoom 4 = .ok (.getfield 34, 3) := by decide +kernel
theorem dX12_isRoom_7 : decode cX12_isRoom 7 = .ok (.iconst 0, 1) := by decide +kernel
theorem dX12_isRoom_8 : decode cX12_isRoom 8 = .ok (.iaload, 1) := by decide +kernel
theorem dX12_isRoom_9 : decode cX12_isRoom 9 = .ok (.iconst 1, 1) := by decide +kernel
theorem dX12_isRoom_10 : decode cX12_isRoom 10 = .ok (.isub, 1) := by decide +kernel
theorem dX12_isRoom_11 : decode cX12_isRoom 11 = .ok (.i2l, 1) := by decide +kernel
theorem dX12_isRoom_12 : decode cX12_isRoom 12 = .ok (.invokestatic 94, 3) := by decide +kernel
theorem dX12_isRoom_15 : decode cX12_isRoom 15 = .ok (.ireturn, 1) := by decide +kernel
theorem dX12_isHour_0 : decode cX12_isHour 0 = .ok (.iload_n 0, 1) := by decide +kernel
theorem dX12_isHour_1 : decode cX12_isHour 1 = .ok (.i2l, 1) := by decide +kernel
theorem dX12_isHour_2 : decode cX12_isHour 2 = .ok (.lconst 0, 1) := by decide +kernel
theorem dX12_isHour_3 : decode cX12_isHour 3 = .ok (.ldc2_w 265, 3) := by decide +kernel
theorem dX12_isHour_6 : decode cX12_isHour 6 = .ok (.invokestatic 94, 3) := by decide +kernel
theorem dX12_isHour_9 : decode cX12_isHour 9 = .ok (.ireturn, 1) := by decide +kernel
theorem dX12_isSet_0 : decode cX12_isSet 0 = .ok (.aload_n 0, 1) := by decide +kernel
theorem dX12_isSet_1 : decode cX12_isSet 1 = .ok (.invokevirtual 267, 3) := by decide +kernel
theorem dX12_isSet_4 : decode cX12_isSet 4 = .ok (.ifCond .eq 27, 3) := by decide +kernel
theorem dX12_isSet_7 : decode cX12_isSet 7 = .ok (.iload_n 1, 1) := by decide +kernel
theorem dX12_isSet_8 : decode cX12_isSet 8 = .ok (.i2l, 1) := by decide +kernel
theorem dX12_isSet_9 : decode cX12_isSet 9 = .ok (.lconst 0, 1) := by decide +kernel
theorem dX12_isSet_10 : decode cX12_isSet 10 = .ok (.iconst 1, 1) := by decide +kernel
theorem dX12_isSet_11 : decode cX12_isSet 11 = .ok (.aload_n 0, 1) := by decide +kernel
theorem dX12_isSet_12 : decode cX12_isSet 12 = .ok (.getfield 34, 3) := by decide +kernel
theorem dX12_isSet_15 : decode cX12_isSet 15 = .ok (.iconst 3, 1) := by decide +kernel
theorem dX12_isSet_16 : decode cX12_isSet 16 = .ok (.iaload, 1) := by decide +kernel
theorem dX12_isSet_17 : decode cX12_isSet 17 = .ok (.ishl, 1) := by decide +kernel
theorem dX12_isSet_18 : decode cX12_isSet 18 = .ok (.iconst 1, 1) := by decide +kernel
theorem dX12_isSet_19 : decode cX12_isSet 19 = .ok (.isub, 1) := by decide +kernel
theorem dX12_isSet_20 : decode cX12_isSet 20 = .ok (.i2l, 1) := by decide +kernel
theorem dX12_isSet_21 : decode cX12_isSet 21 = .ok (.invokestatic 94, 3) := by decide +kernel
theorem dX12_isSet_24 : decode cX12_isSet 24 = .ok (.ifCond .eq 7, 3) := by decide +kernel
theorem dX12_isSet_27 : decode cX12_isSet 27 = .ok (.iconst 1, 1) := by decide +kernel
theorem dX12_isSet_28 : decode cX12_isSet 28 = .ok (.goto 4, 3) := by decide +kernel
theorem dX12_isSet_31 : decode cX12_isSet 31 = .ok (.iconst 0, 1) := by decide +kernel
theorem dX12_isSet_32 : decode cX12_isSet 32 = .ok (.ireturn, 1) := by decide +kernel
theorem dX12_isBit_0 : decode cX12_isBit 0 = .ok (.iload_n 0, 1) := by decide +kernel
theorem dX12_isBit_1 : decode cX12_isBit 1 = .ok (.iload_n 1, 1) := by decide +kernel
theorem dX12_isBit_2 : decode cX12_isBit 2 = .ok (.ishr, 1) := by decide +kernel
theorem dX12_isBit_3 : decode cX12_isBit 3 = .ok (.iconst 1, 1) := by decide +kernel
theorem dX12_isBit_4 : decode cX12_isBit 4 = .ok (.iand, 1) := by decide +kernel
theorem dX12_isBit_5 : decode cX12_isBit 5 = .ok (.iconst 1, 1) := by decide +kernel
theorem dX12_isBit_6 : decode cX12_isBit 6 = .ok (.if_icmp .ne 7, 3) := by decide +kernel
theorem dX12_isBit_9 : decode cX12_isBit 9 = .ok (.iconst 1, 1) := by decide +kernel
theorem dX12_isBit_10 : decode cX12_isBit 10 = .ok (.goto 4, 3) := by decide +kernel
theorem dX12_isBit_13 : decode cX12_isBit 13 = .ok (.iconst 0, 1) := by decide +kernel
theorem dX12_isBit_14 : decode cX12_isBit 14 = .ok (.ireturn, 1) := by decide +kernel
theorem dX12_sizeOf_0 : decode cX12_sizeOf 0 = .ok (.iconst 0, 1) := by decide +kernel
theorem dX12_sizeOf_1 : decode cX12_sizeOf 1 = .ok (.istore_n 1, 1) := by decide +kernel
theorem dX12_sizeOf_2 : decode cX12_sizeOf 2 = .ok (.iload_n 0, 1) := by decide +kernel
theorem dX12_sizeOf_3 : decode cX12_sizeOf 3 = .ok (.istore_n 2, 1) := by decide +kernel
theorem dX12_sizeOf_4 : decode cX12_sizeOf 4 = .ok (.iload_n 2, 1) := by decide +kernel
theorem dX12_sizeOf_5 : decode cX12_sizeOf 5 = .ok (.ifCond .eq 15, 3) := by decide +kernel
theorem dX12_sizeOf_8 : decode cX12_sizeOf 8 = .ok (.iinc 1 1, 3) := by decide +kernel
theorem dX12_sizeOf_11 : decode cX12_sizeOf 11 = .ok (.iload_n 2, 1) := by decide +kernel
theorem dX12_sizeOf_12 : decode cX12_sizeOf 12 = .ok (.iload_n 2, 1) := by decide +kernel
theorem dX12_sizeOf_13 : decode cX12_sizeOf 13 = .ok (.iconst 1, 1) := by decide +kernel
theorem dX12_sizeOf_14 : decode cX12_sizeOf 14 = .ok (.isub, 1) := by decide +kernel
theorem dX12_sizeOf_15 : decode cX12_sizeOf 15 = .ok (.iand, 1) := by decide +kernel
theorem dX12_sizeOf_16 : decode cX12_sizeOf 16 = .ok (.istore_n 2, 1) := by decide +kernel
theorem dX12_sizeOf_17 : decode cX12_sizeOf 17 = .ok (.goto (-13), 3) := by decide +kernel
theorem dX12_sizeOf_20 : decode cX12_sizeOf 20 = .ok (.iload_n 1, 1) := by decide +kernel
theorem dX12_sizeOf_21 : decode cX12_sizeOf 21 = .ok (.ireturn, 1) := by decide +kernel
theorem dX12_of_0 : decode cX12_of 0 = .ok (.aload_n 0, 1) := by decide +kernel
theorem dX12_of_1 : decode cX12_of 1 = .ok (.getfield 37, 3) := by decide +kernel
theorem dX12_of_4 : decode cX12_of 4 = .ok (.bipush 9, 2) := by decide +kernel
theorem dX12_of_6 : decode cX12_of 6 = .ok (.iload_n 1, 1) := by decide +kernel
theorem dX12_of_7 : decode cX12_of 7 = .ok (.imul, 1) := by decide +kernel
theorem dX12_of_8 : decode cX12_of 8 = .ok (.iload_n 2, 1) := by decide +kernel
theorem dX12_of_9 : decode cX12_of 9 = .ok (.iadd, 1) := by decide +kernel
theorem dX12_of_10 : decode cX12_of 10 = .ok (.iaload, 1) := by decide +kernel
theorem dX12_of_11 : decode cX12_of 11 = .ok (.ireturn, 1) := by decide +kernel
theorem dX12_official_0 : decode cX12_official 0 = .ok (.aload_n 0, 1) := by decide +kernel
theorem dX12_official_1 : decode cX12_official 1 = .ok (.iconst 0, 1) := by decide +kernel
theorem dX12_official_2 : decode cX12_official 2 = .ok (.putfield 89, 3) := by decide +kernel
theorem dX12_official_5 : decode cX12_official 5 = .ok (.aload_n 0, 1) := by decide +kernel
theorem dX12_official_6 : decode cX12_official 6 = .ok (.iload_n 1, 1) := by decide +kernel
theorem dX12_official_7 : decode cX12_official 7 = .ok (.i2l, 1) := by decide +kernel
theorem dX12_official_8 : decode cX12_official 8 = .ok (.invokevirtual 270, 3) := by decide +kernel
theorem dX12_official_11 : decode cX12_official 11 = .ok (.ifCond .eq 24, 3) := by decide +kernel
theorem dX12_official_14 : decode cX12_official 14 = .ok (.iload_n 2, 1) := by decide +kernel
theorem dX12_official_15 : decode cX12_official 15 = .ok (.i2l, 1) := by decide +kernel
theorem dX12_official_16 : decode cX12_official 16 = .ok (.lconst 0, 1) := by decide +kernel
theorem dX12_official_17 : decode cX12_official 17 = .ok (.ldc2_w 273, 3) := by decide +kernel
theorem dX12_official_20 : decode cX12_official 20 = .ok (.invokestatic 94, 3) := by decide +kernel
theorem dX12_official_23 : decode cX12_official 23 = .ok (.ifCond .eq 12, 3) := by decide +kernel
theorem dX12_official_26 : decode cX12_official 26 = .ok (.aload_n 0, 1) := by decide +kernel
theorem dX12_official_27 : decode cX12_official 27 = .ok (.iload_n 1, 1) := by decide +kernel
theorem dX12_official_28 : decode cX12_official 28 = .ok (.iload_n 2, 1) := by decide +kernel
theorem dX12_official_29 : decode cX12_official 29 = .ok (.invokevirtual 275, 3) := by decide +kernel
theorem dX12_official_32 : decode cX12_official 32 = .ok (.goto 5, 3) := by decide +kernel
theorem dX12_official_35 : decode cX12_official 35 = .ok (.bipush (-2), 2) := by decide +kernel
theorem dX12_official_37 : decode cX12_official 37 = .ok (.ireturn, 1) := by decide +kernel
theorem dX12_asks__0 : decode cX12_asks_ 0 = .ok (.aload_n 0, 1) := by decide +kernel
theorem dX12_asks__1 : decode cX12_asks_ 1 = .ok (.iconst 0, 1) := by decide +kernel
theorem dX12_asks__2 : decode cX12_asks_ 2 = .ok (.putfield 89, 3) := by decide +kernel
theorem dX12_asks__5 : decode cX12_asks_ 5 = .ok (.aload_n 0, 1) := by decide +kernel
theorem dX12_asks__6 : decode cX12_asks_ 6 = .ok (.iload_n 1, 1) := by decide +kernel
theorem dX12_asks__7 : decode cX12_asks_ 7 = .ok (.i2l, 1) := by decide +kernel
theorem dX12_asks__8 : decode cX12_asks_ 8 = .ok (.invokevirtual 270, 3) := by decide +kernel
theorem dX12_asks__11 : decode cX12_asks_ 11 = .ok (.ifCond .eq 35, 3) := by decide +kernel
theorem dX12_asks__14 : decode cX12_asks_ 14 = .ok (.iload_n 2, 1) := by decide +kernel
theorem dX12_asks__15 : decode cX12_asks_ 15 = .ok (.i2l, 1) := by decide +kernel
theorem dX12_asks__16 : decode cX12_asks_ 16 = .ok (.lconst 0, 1) := by decide +kernel
theorem dX12_asks__17 : decode cX12_asks_ 17 = .ok (.lconst 1, 1) := by decide +kernel
theorem dX12_asks__18 : decode cX12_asks_ 18 = .ok (.invokestatic 94, 3) := by decide +kernel
theorem dX12_asks__21 : decode cX12_asks_ 21 = .ok (.ifCond .eq 25, 3) := by decide +kernel
theorem dX12_asks__24 : decode cX12_asks_ 24 = .ok (.iload_n 2, 1) := by decide +kernel
theorem dX12_asks__25 : decode cX12_asks_ 25 = .ok (.ifCond .ne 12, 3) := by decide +kernel
theorem dX12_asks__28 : decode cX12_asks_ 28 = .ok (.aload_n 0, 1) := by decide +kernel
theorem dX12_asks__29 : decode cX12_asks_ 29 = .ok (.getfield 40, 3) := by decide +kernel
theorem dX12_asks__32 : decode cX12_asks_ 32 = .ok (.iload_n 1, 1) := by decide +kernel
theorem dX12_asks__33 : decode cX12_asks_ 33 = .ok (.iaload, 1) := by decide +kernel
theorem dX12_asks__34 : decode cX12_asks_ 34 = .ok (.goto 14, 3) := by decide +kernel
theorem dX12_asks__37 : decode cX12_asks_ 37 = .ok (.aload_n 0, 1) := by decide +kernel
theorem dX12_asks__38 : decode cX12_asks_ 38 = .ok (.getfield 43, 3) := by decide +kernel
theorem dX12_asks__41 : decode cX12_asks_ 41 = .ok (.iload_n 1, 1) := by decide +kernel
theorem dX12_asks__42 : decode cX12_asks_ 42 = .ok (.iaload, 1) := by decide +kernel
theorem dX12_asks__43 : decode cX12_asks_ 43 = .ok (.goto 5, 3) := by decide +kernel
theorem dX12_asks__46 : decode cX12_asks_ 46 = .ok (.bipush (-2), 2) := by decide +kernel
theorem dX12_asks__48 : decode cX12_asks_ 48 = .ok (.ireturn, 1) := by decide +kernel
theorem dX12_asked_0 : decode cX12_asked 0 = .ok (.aload_n 0, 1) := by decide +kernel
theorem dX12_asked_1 : decode cX12_asked 1 = .ok (.iconst 0, 1) := by decide +kernel
theorem dX12_asked_2 : decode cX12_asked 2 = .ok (.putfield 89, 3) := by decide +kernel
theorem dX12_asked_5 : decode cX12_asked 5 = .ok (.aload_n 0, 1) := by decide +kernel
theorem dX12_asked_6 : decode cX12_asked 6 = .ok (.iload_n 1, 1) := by decide +kernel
theorem dX12_asked_7 : decode cX12_asked 7 = .ok (.i2l, 1) := by decide +kernel
theorem dX12_asked_8 : decode cX12_asked 8 = .ok (.invokevirtual 270, 3) := by decide +kernel
theorem dX12_asked_11 : decode cX12_asked 11 = .ok (.ifCond .eq 13, 3) := by decide +kernel
theorem dX12_asked_14 : decode cX12_asked 14 = .ok (.iload_n 2, 1) := by decide +kernel
theorem dX12_asked_15 : decode cX12_asked 15 = .ok (.i2l, 1) := by decide +kernel
theorem dX12_asked_16 : decode cX12_asked 16 = .ok (.lconst 0, 1) := by decide +kernel
theorem dX12_asked_17 : decode cX12_asked 17 = .ok (.lconst 1, 1) := by decide +kernel
theorem dX12_asked_18 : decode cX12_asked 18 = .ok (.invokestatic 94, 3) := by decide +kernel
theorem dX12_asked_21 : decode cX12_asked 21 = .ok (.ifCond .ne 6, 3) := by decide +kernel
theorem dX12_asked_24 : decode cX12_asked 24 = .ok (.bipush (-2), 2) := by decide +kernel
theorem dX12_asked_26 : decode cX12_asked 26 = .ok (.ireturn, 1) := by decide +kernel
theorem dX12_asked_27 : decode cX12_asked 27 = .ok (.iconst 0, 1) := by decide +kernel
theorem dX12_asked_28 : decode cX12_asked 28 = .ok (.istore_n 3, 1) := by decide +kernel
theorem dX12_asked_29 : decode cX12_asked 29 = .ok (.iconst 0, 1) := by decide +kernel
theorem dX12_asked_30 : decode cX12_asked 30 = .ok (.istore 4, 2) := by decide +kernel
theorem dX12_asked_32 : decode cX12_asked 32 = .ok (.iload 4, 2) := by decide +kernel
theorem dX12_asked_34 : decode cX12_asked 34 = .ok (.aload_n 0, 1) := by decide +kernel
theorem dX12_asked_35 : decode cX12_asked 35 = .ok (.getfield 34, 3) := by decide +kernel
theorem dX12_asked_38 : decode cX12_asked 38 = .ok (.iconst 3, 1) := by decide +kernel
theorem dX12_asked_39 : decode cX12_asked 39 = .ok (.iaload, 1) := by decide +kernel
theorem dX12_asked_40 : decode cX12_asked 40 = .ok (.if_icmp .ge 48, 3) := by decide +kernel
theorem dX12_asked_43 : decode cX12_asked 43 = .ok (.iload_n 3, 1) := by decide +kernel
theorem dX12_asked_44 : decode cX12_asked 44 = .ok (.iload_n 2, 1) := by decide +kernel
theorem dX12_asked_45 : decode cX12_asked 45 = .ok (.ifCond .ne 13, 3) := by decide +kernel
theorem dX12_asked_48 : decode cX12_asked 48 = .ok (.aload_n 0, 1) := by decide +kernel
theorem dX12_asked_49 : decode cX12_asked 49 = .ok (.getfield 40, 3) := by decide +kernel
theorem dX12_asked_52 : decode cX12_asked 52 = .ok (.iload 4, 2) := by decide +kernel
theorem dX12_asked_54 : decode cX12_asked 54 = .ok (.iaload, 1) := by decide +kernel
theorem dX12_asked_55 : decode cX12_asked 55 = .ok (.goto 10, 3) := by decide +kernel
theorem dX12_asked_58 : decode cX12_asked 58 = .ok (.aload_n 0, 1) := by decide +kernel
theorem dX12_asked_59 : decode cX12_asked 59 = .ok (.getfield 43, 3) := by decide +kernel
theorem dX12_asked_62 : decode cX12_asked 62 = .ok (.iload 4, 2) := by decide +kernel
theorem dX12_asked_64 : decode cX12_asked 64 = .ok (.iaload, 1) := by decide +kernel
theorem dX12_asked_65 : decode cX12_asked 65 = .ok (.iload_n 1, 1) := by decide +kernel
theorem dX12_asked_66 : decode cX12_asked 66 = .ok (.invokestatic 278, 3) := by decide +kernel
theorem dX12_asked_69 : decode cX12_asked 69 = .ok (.ifCond .eq 10, 3) := by decide +kernel
theorem dX12_asked_72 : decode cX12_asked 72 = .ok (.iconst 1, 1) := by decide +kernel
theorem dX12_asked_73 : decode cX12_asked 73 = .ok (.iload 4, 2) := by decide +kernel
theorem dX12_asked_75 : decode cX12_asked 75 = .ok (.ishl, 1) := by decide +kernel
theorem dX12_asked_76 : decode cX12_asked 76 = .ok (.goto 4, 3) := by decide +kernel
theorem dX12_asked_79 : decode cX12_asked 79 = .ok (.iconst 0, 1) := by decide +kernel
theorem dX12_asked_80 : decode cX12_asked 80 = .ok (.ior, 1) := by decide +kernel
theorem dX12_asked_81 : decode cX12_asked 81 = .ok (.istore_n 3, 1) := by decide +kernel
theorem dX12_asked_82 : decode cX12_asked 82 = .ok (.iinc 4 1, 3) := by decide +kernel
theorem dX12_asked_85 : decode cX12_asked 85 = .ok (.goto (-53), 3) := by decide +kernel
theorem dX12_asked_88 : decode cX12_asked 88 = .ok (.iload_n 3, 1) := by decide +kernel
theorem dX12_asked_89 : decode cX12_asked 89 = .ok (.ireturn, 1) := by decide +kernel
theorem dX12_isOpenDay_0 : decode cX12_isOpenDay 0 = .ok (.aload_n 0, 1) := by decide +kernel
theorem dX12_isOpenDay_1 : decode cX12_isOpenDay 1 = .ok (.iload_n 1, 1) := by decide +kernel
theorem dX12_isOpenDay_2 : decode cX12_isOpenDay 2 = .ok (.iconst 3, 1) := by decide +kernel
theorem dX12_isOpenDay_3 : decode cX12_isOpenDay 3 = .ok (.invokevirtual 275, 3) := by decide +kernel
theorem dX12_isOpenDay_6 : decode cX12_isOpenDay 6 = .ok (.iload_n 2, 1) := by decide +kernel
theorem dX12_isOpenDay_7 : decode cX12_isOpenDay 7 = .ok (.bipush 10, 2) := by decide +kernel
theorem dX12_isOpenDay_9 : decode cX12_isOpenDay 9 = .ok (.idiv, 1) := by decide +kernel
theorem dX12_isOpenDay_10 : decode cX12_isOpenDay 10 = .ok (.iconst 5, 1) := by decide +kernel
theorem dX12_isOpenDay_11 : decode cX12_isOpenDay 11 = .ok (.irem, 1) := by decide +kernel
theorem dX12_isOpenDay_12 : decode cX12_isOpenDay 12 = .ok (.invokestatic 278, 3) := by decide +kernel
theorem dX12_isOpenDay_15 : decode cX12_isOpenDay 15 = .ok (.ifCond .eq 46, 3) := by decide +kernel
theorem dX12_isOpenDay_18 : decode cX12_isOpenDay 18 = .ok (.iload_n 2, 1) := by decide +kernel
theorem dX12_isOpenDay_19 : decode cX12_isOpenDay 19 = .ok (.bipush 10, 2) := by decide +kernel
theorem dX12_isOpenDay_21 : decode cX12_isOpenDay 21 = .ok (.irem, 1) := by decide +kernel
theorem dX12_isOpenDay_22 : decode cX12_isOpenDay 22 = .ok (.aload_n 0, 1) := by decide +kernel
theorem dX12_isOpenDay_23 : decode cX12_isOpenDay 23 = .ok (.iload_n 1, 1) := by decide +kernel
theorem dX12_isOpenDay_24 : decode cX12_isOpenDay 24 = .ok (.iconst 1, 1) := by decide +kernel
theorem dX12_isOpenDay_25 : decode cX12_isOpenDay 25 = .ok (.invokevirtual 275, 3) := by decide +kernel
theorem dX12_isOpenDay_28 : decode cX12_isOpenDay 28 = .ok (.if_icmp .lt 33, 3) := by decide +kernel
theorem dX12_isOpenDay_31 : decode cX12_isOpenDay 31 = .ok (.iload_n 2, 1) := by decide +kernel
theorem dX12_isOpenDay_32 : decode cX12_isOpenDay 32 = .ok (.bipush 10, 2) := by decide +kernel
theorem dX12_isOpenDay_34 : decode cX12_isOpenDay 34 = .ok (.irem, 1) := by decide +kernel
theorem dX12_isOpenDay_35 : decode cX12_isOpenDay 35 = .ok (.aload_n 0, 1) := by decide +kernel
theorem dX12_isOpenDay_36 : decode cX12_isOpenDay 36 = .ok (.iload_n 1, 1) := by decide +kernel
theorem dX12_isOpenDay_37 : decode cX12_isOpenDay 37 = .ok (.iconst 2, 1) := by decide +kernel
theorem dX12_isOpenDay_38 : decode cX12_isOpenDay 38 = .ok (.invokevirtual 275, 3) := by decide +kernel
theorem dX12_isOpenDay_41 : decode cX12_isOpenDay 41 = .ok (.if_icmp .gt 20, 3) := by decide +kernel
theorem dX12_isOpenDay_44 : decode cX12_isOpenDay 44 = .ok (.iload_n 2, 1) := by decide +kernel
theorem dX12_isOpenDay_45 : decode cX12_isOpenDay 45 = .ok (.bipush 10, 2) := by decide +kernel
theorem dX12_isOpenDay_47 : decode cX12_isOpenDay 47 = .ok (.irem, 1) := by decide +kernel
theorem dX12_isOpenDay_48 : decode cX12_isOpenDay 48 = .ok (.aload_n 0, 1) := by decide +kernel
theorem dX12_isOpenDay_49 : decode cX12_isOpenDay 49 = .ok (.iload_n 1, 1) := by decide +kernel
theorem dX12_isOpenDay_50 : decode cX12_isOpenDay 50 = .ok (.iconst 4, 1) := by decide +kernel
theorem dX12_isOpenDay_51 : decode cX12_isOpenDay 51 = .ok (.invokevirtual 275, 3) := by decide +kernel
theorem dX12_isOpenDay_54 : decode cX12_isOpenDay 54 = .ok (.if_icmp .eq 7, 3) := by decide +kernel
theorem dX12_isOpenDay_57 : decode cX12_isOpenDay 57 = .ok (.iconst 1, 1) := by decide +kernel
theorem dX12_isOpenDay_58 : decode cX12_isOpenDay 58 = .ok (.goto 4, 3) := by decide +kernel
theorem dX12_isOpenDay_61 : decode cX12_isOpenDay 61 = .ok (.iconst 0, 1) := by decide +kernel
theorem dX12_isOpenDay_62 : decode cX12_isOpenDay 62 = .ok (.ireturn, 1) := by decide +kernel
theorem dX12_isLeave_0 : decode cX12_isLeave 0 = .ok (.aload_n 0, 1) := by decide +kernel
theorem dX12_isLeave_1 : decode cX12_isLeave 1 = .ok (.iload_n 1, 1) := by decide +kernel
theorem dX12_isLeave_2 : decode cX12_isLeave 2 = .ok (.bipush 7, 2) := by decide +kernel
theorem dX12_isLeave_4 : decode cX12_isLeave 4 = .ok (.invokevirtual 275, 3) := by decide +kernel
theorem dX12_isLeave_7 : decode cX12_isLeave 7 = .ok (.iconst (-1), 1) := by decide +kernel
theorem dX12_isLeave_8 : decode cX12_isLeave 8 = .ok (.if_icmp .eq 35, 3) := by decide +kernel
theorem dX12_isLeave_11 : decode cX12_isLeave 11 = .ok (.iload_n 2, 1) := by decide +kernel
theorem dX12_isLeave_12 : decode cX12_isLeave 12 = .ok (.bipush 10, 2) := by decide +kernel
theorem dX12_isLeave_14 : decode cX12_isLeave 14 = .ok (.idiv, 1) := by decide +kernel
theorem dX12_isLeave_15 : decode cX12_isLeave 15 = .ok (.aload_n 0, 1) := by decide +kernel
theorem dX12_isLeave_16 : decode cX12_isLeave 16 = .ok (.iload_n 1, 1) := by decide +kernel
theorem dX12_isLeave_17 : decode cX12_isLeave 17 = .ok (.bipush 7, 2) := by decide +kernel
theorem dX12_isLeave_19 : decode cX12_isLeave 19 = .ok (.invokevirtual 275, 3) := by decide +kernel
theorem dX12_isLeave_22 : decode cX12_isLeave 22 = .ok (.if_icmp .lt 21, 3) := by decide +kernel
theorem dX12_isLeave_25 : decode cX12_isLeave 25 = .ok (.iload_n 2, 1) := by decide +kernel
theorem dX12_isLeave_26 : decode cX12_isLeave 26 = .ok (.bipush 10, 2) := by decide +kernel
theorem dX12_isLeave_28 : decode cX12_isLeave 28 = .ok (.idiv, 1) := by decide +kernel
theorem dX12_isLeave_29 : decode cX12_isLeave 29 = .ok (.aload_n 0, 1) := by decide +kernel
theorem dX12_isLeave_30 : decode cX12_isLeave 30 = .ok (.iload_n 1, 1) := by decide +kernel
theorem dX12_isLeave_31 : decode cX12_isLeave 31 = .ok (.bipush 8, 2) := by decide +kernel
theorem dX12_isLeave_33 : decode cX12_isLeave 33 = .ok (.invokevirtual 275, 3) := by decide +kernel
theorem dX12_isLeave_36 : decode cX12_isLeave 36 = .ok (.if_icmp .gt 7, 3) := by decide +kernel
theorem dX12_isLeave_39 : decode cX12_isLeave 39 = .ok (.iconst 1, 1) := by decide +kernel
theorem dX12_isLeave_40 : decode cX12_isLeave 40 = .ok (.goto 4, 3) := by decide +kernel
theorem dX12_isLeave_43 : decode cX12_isLeave 43 = .ok (.iconst 0, 1) := by decide +kernel
theorem dX12_isLeave_44 : decode cX12_isLeave 44 = .ok (.ireturn, 1) := by decide +kernel
theorem dX12_isOpen_0 : decode cX12_isOpen 0 = .ok (.aload_n 0, 1) := by decide +kernel
theorem dX12_isOpen_1 : decode cX12_isOpen 1 = .ok (.iload_n 1, 1) := by decide +kernel
theorem dX12_isOpen_2 : decode cX12_isOpen 2 = .ok (.iload_n 2, 1) := by decide +kernel
theorem dX12_isOpen_3 : decode cX12_isOpen 3 = .ok (.invokevirtual 282, 3) := by decide +kernel
theorem dX12_isOpen_6 : decode cX12_isOpen 6 = .ok (.ifCond .eq 16, 3) := by decide +kernel
theorem dX12_isOpen_9 : decode cX12_isOpen 9 = .ok (.aload_n 0, 1) := by decide +kernel
theorem dX12_isOpen_10 : decode cX12_isOpen 10 = .ok (.iload_n 1, 1) := by decide +kernel
theorem dX12_isOpen_11 : decode cX12_isOpen 11 = .ok (.iload_n 2, 1) := by decide +kernel
theorem dX12_isOpen_12 : decode cX12_isOpen 12 = .ok (.invokevirtual 285, 3) := by decide +kernel
theorem dX12_isOpen_15 : decode cX12_isOpen 15 = .ok (.ifCond .ne 7, 3) := by decide +kernel
theorem dX12_isOpen_18 : decode cX12_isOpen 18 = .ok (.iconst 1, 1) := by decide +kernel
theorem dX12_isOpen_19 : decode cX12_isOpen 19 = .ok (.goto 4, 3) := by decide +kernel
theorem dX12_isOpen_22 : decode cX12_isOpen 22 = .ok (.iconst 0, 1) := by decide +kernel
theorem dX12_isOpen_23 : decode cX12_isOpen 23 = .ok (.ireturn, 1) := by decide +kernel
theorem dX12_open_0 : decode cX12_open 0 = .ok (.aload_n 0, 1) := by decide +kernel
theorem dX12_open_1 : decode cX12_open 1 = .ok (.iconst 0, 1) := by decide +kernel
theorem dX12_open_2 : decode cX12_open 2 = .ok (.putfield 89, 3) := by decide +kernel
theorem dX12_open_5 : decode cX12_open 5 = .ok (.aload_n 0, 1) := by decide +kernel
theorem dX12_open_6 : decode cX12_open 6 = .ok (.iload_n 1, 1) := by decide +kernel
theorem dX12_open_7 : decode cX12_open 7 = .ok (.i2l, 1) := by decide +kernel
theorem dX12_open_8 : decode cX12_open 8 = .ok (.invokevirtual 270, 3) := by decide +kernel
theorem dX12_open_11 : decode cX12_open 11 = .ok (.ifCond .eq 27, 3) := by decide +kernel
theorem dX12_open_14 : decode cX12_open 14 = .ok (.iload_n 2, 1) := by decide +kernel
theorem dX12_open_15 : decode cX12_open 15 = .ok (.invokestatic 288, 3) := by decide +kernel
theorem dX12_open_18 : decode cX12_open 18 = .ok (.ifCond .eq 20, 3) := by decide +kernel
theorem dX12_open_21 : decode cX12_open 21 = .ok (.aload_n 0, 1) := by decide +kernel
theorem dX12_open_22 : decode cX12_open 22 = .ok (.iload_n 1, 1) := by decide +kernel
theorem dX12_open_23 : decode cX12_open 23 = .ok (.iload_n 2, 1) := by decide +kernel
theorem dX12_open_24 : decode cX12_open 24 = .ok (.invokevirtual 291, 3) := by decide +kernel
theorem dX12_open_27 : decode cX12_open 27 = .ok (.ifCond .eq 7, 3) := by decide +kernel
theorem dX12_open_30 : decode cX12_open 30 = .ok (.iconst 1, 1) := by decide +kernel
theorem dX12_open_31 : decode cX12_open 31 = .ok (.goto 9, 3) := by decide +kernel
theorem dX12_open_34 : decode cX12_open 34 = .ok (.iconst 0, 1) := by decide +kernel
theorem dX12_open_35 : decode cX12_open 35 = .ok (.goto 5, 3) := by decide +kernel
theorem dX12_open_38 : decode cX12_open 38 = .ok (.bipush (-2), 2) := by decide +kernel
theorem dX12_open_40 : decode cX12_open 40 = .ok (.ireturn, 1) := by decide +kernel
theorem dX12_opens_0 : decode cX12_opens 0 = .ok (.aload_n 0, 1) := by decide +kernel
theorem dX12_opens_1 : decode cX12_opens 1 = .ok (.iconst 0, 1) := by decide +kernel
theorem dX12_opens_2 : decode cX12_opens 2 = .ok (.putfield 89, 3) := by decide +kernel
theorem dX12_opens_5 : decode cX12_opens 5 = .ok (.aload_n 0, 1) := by decide +kernel
theorem dX12_opens_6 : decode cX12_opens 6 = .ok (.iload_n 1, 1) := by decide +kernel
theorem dX12_opens_7 : decode cX12_opens 7 = .ok (.i2l, 1) := by decide +kernel
theorem dX12_opens_8 : decode cX12_opens 8 = .ok (.invokevirtual 270, 3) := by decide +kernel
theorem dX12_opens_11 : decode cX12_opens 11 = .ok (.ifCond .eq 10, 3) := by decide +kernel
theorem dX12_opens_14 : decode cX12_opens 14 = .ok (.iload_n 2, 1) := by decide +kernel
theorem dX12_opens_15 : decode cX12_opens 15 = .ok (.invokestatic 288, 3) := by decide +kernel
theorem dX12_opens_18 : decode cX12_opens 18 = .ok (.ifCond .ne 6, 3) := by decide +kernel
theorem dX12_opens_21 : decode cX12_opens 21 = .ok (.bipush (-2), 2) := by decide +kernel
theorem dX12_opens_23 : decode cX12_opens 23 = .ok (.ireturn, 1) := by decide +kernel
theorem dX12_opens_24 : decode cX12_opens 24 = .ok (.iload_n 2, 1) := by decide +kernel
theorem dX12_opens_25 : decode cX12_opens 25 = .ok (.istore_n 3, 1) := by decide +kernel
theorem dX12_opens_26 : decode cX12_opens 26 = .ok (.iload_n 3, 1) := by decide +kernel
theorem dX12_opens_27 : decode cX12_opens 27 = .ok (.sipush 400, 3) := by decide +kernel
theorem dX12_opens_30 : decode cX12_opens 30 = .ok (.if_icmp .ge 20, 3) := by decide +kernel
theorem dX12_opens_33 : decode cX12_opens 33 = .ok (.aload_n 0, 1) := by decide +kernel
theorem dX12_opens_34 : decode cX12_opens 34 = .ok (.iload_n 1, 1) := by decide +kernel
theorem dX12_opens_35 : decode cX12_opens 35 = .ok (.iload_n 3, 1) := by decide +kernel
theorem dX12_opens_36 : decode cX12_opens 36 = .ok (.invokevirtual 291, 3) := by decide +kernel
theorem dX12_opens_39 : decode cX12_opens 39 = .ok (.ifCond .eq 5, 3) := by decide +kernel
theorem dX12_opens_42 : decode cX12_opens 42 = .ok (.iload_n 3, 1) := by decide +kernel
theorem dX12_opens_43 : decode cX12_opens 43 = .ok (.ireturn, 1) := by decide +kernel
theorem dX12_opens_44 : decode cX12_opens 44 = .ok (.iinc 3 1, 3) := by decide +kernel
theorem dX12_opens_47 : decode cX12_opens 47 = .ok (.goto (-21), 3) := by decide +kernel
theorem dX12_opens_50 : decode cX12_opens 50 = .ok (.iconst (-1), 1) := by decide +kernel
theorem dX12_opens_51 : decode cX12_opens 51 = .ok (.ireturn, 1) := by decide +kernel
theorem dX12_week_0 : decode cX12_week 0 = .ok (.aload_n 0, 1) := by decide +kernel
theorem dX12_week_1 : decode cX12_week 1 = .ok (.iconst 0, 1) := by decide +kernel
theorem dX12_week_2 : decode cX12_week 2 = .ok (.putfield 89, 3) := by decide +kernel
theorem dX12_week_5 : decode cX12_week 5 = .ok (.aload_n 0, 1) := by decide +kernel
theorem dX12_week_6 : decode cX12_week 6 = .ok (.iload_n 1, 1) := by decide +kernel
theorem dX12_week_7 : decode cX12_week 7 = .ok (.i2l, 1) := by decide +kernel
theorem dX12_week_8 : decode cX12_week 8 = .ok (.invokevirtual 270, 3) := by decide +kernel
theorem dX12_week_11 : decode cX12_week 11 = .ok (.ifCond .ne 6, 3) := by decide +kernel
theorem dX12_week_14 : decode cX12_week 14 = .ok (.bipush (-2), 2) := by decide +kernel
theorem dX12_week_16 : decode cX12_week 16 = .ok (.ireturn, 1) := by decide +kernel
theorem dX12_week_17 : decode cX12_week 17 = .ok (.iconst 0, 1) := by decide +kernel
theorem dX12_week_18 : decode cX12_week 18 = .ok (.istore_n 2, 1) := by decide +kernel
theorem dX12_week_19 : decode cX12_week 19 = .ok (.iconst 0, 1) := by decide +kernel
theorem dX12_week_20 : decode cX12_week 20 = .ok (.istore_n 3, 1) := by decide +kernel
theorem dX12_week_21 : decode cX12_week 21 = .ok (.iload_n 3, 1) := by decide +kernel
theorem dX12_week_22 : decode cX12_week 22 = .ok (.bipush 50, 2) := by decide +kernel
theorem dX12_week_24 : decode cX12_week 24 = .ok (.if_icmp .ge 26, 3) := by decide +kernel
theorem dX12_week_27 : decode cX12_week 27 = .ok (.iload_n 2, 1) := by decide +kernel
theorem dX12_week_28 : decode cX12_week 28 = .ok (.aload_n 0, 1) := by decide +kernel
theorem dX12_week_29 : decode cX12_week 29 = .ok (.iload_n 1, 1) := by decide +kernel
theorem dX12_week_30 : decode cX12_week 30 = .ok (.iload_n 3, 1) := by decide +kernel
theorem dX12_week_31 : decode cX12_week 31 = .ok (.invokevirtual 282, 3) := by decide +kernel
theorem dX12_week_34 : decode cX12_week 34 = .ok (.ifCond .eq 7, 3) := by decide +kernel
theorem dX12_week_37 : decode cX12_week 37 = .ok (.iconst 1, 1) := by decide +kernel
theorem dX12_week_38 : decode cX12_week 38 = .ok (.goto 4, 3) := by decide +kernel
theorem dX12_week_41 : decode cX12_week 41 = .ok (.iconst 0, 1) := by decide +kernel
theorem dX12_week_42 : decode cX12_week 42 = .ok (.iadd, 1) := by decide +kernel
theorem dX12_week_43 : decode cX12_week 43 = .ok (.istore_n 2, 1) := by decide +kernel
theorem dX12_week_44 : decode cX12_week 44 = .ok (.iinc 3 1, 3) := by decide +kernel
theorem dX12_week_47 : decode cX12_week 47 = .ok (.goto (-26), 3) := by decide +kernel
theorem dX12_week_50 : decode cX12_week 50 = .ok (.iload_n 2, 1) := by decide +kernel
theorem dX12_week_51 : decode cX12_week 51 = .ok (.ireturn, 1) := by decide +kernel
theorem dX12_laysWalks_0 : decode cX12_laysWalks 0 = .ok (.iconst 0, 1) := by decide +kernel
theorem dX12_laysWalks_1 : decode cX12_laysWalks 1 = .ok (.istore_n 1, 1) := by decide +kernel
theorem dX12_laysWalks_2 : decode cX12_laysWalks 2 = .ok (.iload_n 1, 1) := by decide +kernel
theorem dX12_laysWalks_3 : decode cX12_laysWalks 3 = .ok (.bipush 6, 2) := by decide +kernel
theorem dX12_laysWalks_5 : decode cX12_laysWalks 5 = .ok (.if_icmp .ge 73, 3) := by decide +kernel
theorem dX12_laysWalks_8 : decode cX12_laysWalks 8 = .ok (.iconst 0, 1) := by decide +kernel
theorem dX12_laysWalks_9 : decode cX12_laysWalks 9 = .ok (.istore_n 2, 1) := by decide +kernel
theorem dX12_laysWalks_10 : decode cX12_laysWalks 10 = .ok (.iload_n 2, 1) := by decide +kernel
theorem dX12_laysWalks_11 : decode cX12_laysWalks 11 = .ok (.bipush 6, 2) := by decide +kernel
theorem dX12_laysWalks_13 : decode cX12_laysWalks 13 = .ok (.if_icmp .ge 59, 3) := by decide +kernel
theorem dX12_laysWalks_16 : decode cX12_laysWalks 16 = .ok (.aload_n 0, 1) := by decide +kernel
theorem dX12_laysWalks_17 : decode cX12_laysWalks 17 = .ok (.getfield 56, 3) := by decide +kernel
theorem dX12_laysWalks_20 : decode cX12_laysWalks 20 = .ok (.bipush 6, 2) := by decide +kernel
theorem dX12_laysWalks_22 : decode cX12_laysWalks 22 = .ok (.iload_n 1, 1) := by decide +kernel
theorem dX12_laysWalks_23 : decode cX12_laysWalks 23 = .ok (.imul, 1) := by decide +kernel
theorem dX12_laysWalks_24 : decode cX12_laysWalks 24 = .ok (.iload_n 2, 1) := by decide +kernel
theorem dX12_laysWalks_25 : decode cX12_laysWalks 25 = .ok (.iadd, 1) := by decide +kernel
theorem dX12_laysWalks_26 : decode cX12_laysWalks 26 = .ok (.iload_n 1, 1) := by decide +kernel
theorem dX12_laysWalks_27 : decode cX12_laysWalks 27 = .ok (.iload_n 2, 1) := by decide +kernel
theorem dX12_laysWalks_28 : decode cX12_laysWalks 28 = .ok (.if_icmp .ne 7, 3) := by decide +kernel
theorem dX12_laysWalks_31 : decode cX12_laysWalks 31 = .ok (.iconst 0, 1) := by decide +kernel
theorem dX12_laysWalks_32 : decode cX12_laysWalks 32 = .ok (.goto 33, 3) := by decide +kernel
theorem dX12_laysWalks_35 : decode cX12_laysWalks 35 = .ok (.aload_n 0, 1) := by decide +kernel
theorem dX12_laysWalks_36 : decode cX12_laysWalks 36 = .ok (.getfield 46, 3) := by decide +kernel
theorem dX12_laysWalks_39 : decode cX12_laysWalks 39 = .ok (.bipush 6, 2) := by decide +kernel
theorem dX12_laysWalks_41 : decode cX12_laysWalks 41 = .ok (.iload_n 1, 1) := by decide +kernel
theorem dX12_laysWalks_42 : decode cX12_laysWalks 42 = .ok (.imul, 1) := by decide +kernel
theorem dX12_laysWalks_43 : decode cX12_laysWalks 43 = .ok (.iload_n 2, 1) := by decide +kernel
theorem dX12_laysWalks_44 : decode cX12_laysWalks 44 = .ok (.iadd, 1) := by decide +kernel
theorem dX12_laysWalks_45 : decode cX12_laysWalks 45 = .ok (.iaload, 1) := by decide +kernel
theorem dX12_laysWalks_46 : decode cX12_laysWalks 46 = .ok (.ifCond .le 17, 3) := by decide +kernel
theorem dX12_laysWalks_49 : decode cX12_laysWalks 49 = .ok (.aload_n 0, 1) := by decide +kernel
theorem dX12_laysWalks_50 : decode cX12_laysWalks 50 = .ok (.getfield 46, 3) := by decide +kernel
theorem dX12_laysWalks_53 : decode cX12_laysWalks 53 = .ok (.bipush 6, 2) := by decide +kernel
theorem dX12_laysWalks_55 : decode cX12_laysWalks 55 = .ok (.iload_n 1, 1) := by decide +kernel
theorem dX12_laysWalks_56 : decode cX12_laysWalks 56 = .ok (.imul, 1) := by decide +kernel
theorem dX12_laysWalks_57 : decode cX12_laysWalks 57 = .ok (.iload_n 2, 1) := by decide +kernel
theorem dX12_laysWalks_58 : decode cX12_laysWalks 58 = .ok (.iadd, 1) := by decide +kernel
theorem dX12_laysWalks_59 : decode cX12_laysWalks 59 = .ok (.iaload, 1) := by decide +kernel
theorem dX12_laysWalks_60 : decode cX12_laysWalks 60 = .ok (.goto 5, 3) := by decide +kernel
theorem dX12_laysWalks_63 : decode cX12_laysWalks 63 = .ok (.ldc 139, 2) := by decide +kernel
theorem dX12_laysWalks_65 : decode cX12_laysWalks 65 = .ok (.iastore, 1) := by decide +kernel
theorem dX12_laysWalks_66 : decode cX12_laysWalks 66 = .ok (.iinc 2 1, 3) := by decide +kernel
theorem dX12_laysWalks_69 : decode cX12_laysWalks 69 = .ok (.goto (-59), 3) := by decide +kernel
theorem dX12_laysWalks_72 : decode cX12_laysWalks 72 = .ok (.iinc 1 1, 3) := by decide +kernel
theorem dX12_laysWalks_75 : decode cX12_laysWalks 75 = .ok (.goto (-73), 3) := by decide +kernel
theorem dX12_laysWalks_78 : decode cX12_laysWalks 78 = .ok (.iconst 0, 1) := by decide +kernel
theorem dX12_laysWalks_79 : decode cX12_laysWalks 79 = .ok (.istore_n 1, 1) := by decide +kernel
theorem dX12_laysWalks_80 : decode cX12_laysWalks 80 = .ok (.iload_n 1, 1) := by decide +kernel
theorem dX12_laysWalks_81 : decode cX12_laysWalks 81 = .ok (.bipush 6, 2) := by decide +kernel
theorem dX12_laysWalks_83 : decode cX12_laysWalks 83 = .ok (.if_icmp .ge 108, 3) := by decide +kernel
theorem dX12_laysWalks_86 : decode cX12_laysWalks 86 = .ok (.iconst 0, 1) := by decide +kernel
theorem dX12_laysWalks_87 : decode cX12_laysWalks 87 = .ok (.istore_n 2, 1) := by decide +kernel
theorem dX12_laysWalks_88 : decode cX12_laysWalks 88 = .ok (.iload_n 2, 1) := by decide +kernel
theorem dX12_laysWalks_89 : decode cX12_laysWalks 89 = .ok (.bipush 6, 2) := by decide +kernel
theorem dX12_laysWalks_91 : decode cX12_laysWalks 91 = .ok (.if_icmp .ge 94, 3) := by decide +kernel
theorem dX12_laysWalks_94 : decode cX12_laysWalks 94 = .ok (.iconst 0, 1) := by decide +kernel
theorem dX12_laysWalks_95 : decode cX12_laysWalks 95 = .ok (.istore_n 3, 1) := by decide +kernel
theorem dX12_laysWalks_96 : decode cX12_laysWalks 96 = .ok (.iload_n 3, 1) := by decide +kernel
theorem dX12_laysWalks_97 : decode cX12_laysWalks 97 = .ok (.bipush 6, 2) := by decide +kernel
theorem dX12_laysWalks_99 : decode cX12_laysWalks 99 = .ok (.if_icmp .ge 80, 3) := by decide +kernel
theorem dX12_laysWalks_102 : decode cX12_laysWalks 102 = .ok (.aload_n 0, 1) := by decide +kernel
theorem dX12_laysWalks_103 : decode cX12_laysWalks 103 = .ok (.getfield 56, 3) := by decide +kernel
theorem dX12_laysWalks_106 : decode cX12_laysWalks 106 = .ok (.bipush 6, 2) := by decide +kernel
theorem dX12_laysWalks_108 : decode cX12_laysWalks 108 = .ok (.iload_n 2, 1) := by decide +kernel
theorem dX12_laysWalks_109 : decode cX12_laysWalks 109 = .ok (.imul, 1) := by decide +kernel
theorem dX12_laysWalks_110 : decode cX12_laysWalks 110 = .ok (.iload_n 1, 1) := by decide +kernel
theorem dX12_laysWalks_111 : decode cX12_laysWalks 111 = .ok (.iadd, 1) := by decide +kernel
theorem dX12_laysWalks_112 : decode cX12_laysWalks 112 = .ok (.iaload, 1) := by decide +kernel
theorem dX12_laysWalks_113 : decode cX12_laysWalks 113 = .ok (.aload_n 0, 1) := by decide +kernel
theorem dX12_laysWalks_114 : decode cX12_laysWalks 114 = .ok (.getfield 56, 3) := by decide +kernel
theorem dX12_laysWalks_117 : decode cX12_laysWalks 117 = .ok (.bipush 6, 2) := by decide +kernel
theorem dX12_laysWalks_119 : decode cX12_laysWalks 119 = .ok (.iload_n 1, 1) := by decide +kernel
theorem dX12_laysWalks_120 : decode cX12_laysWalks 120 = .ok (.imul, 1) := by decide +kernel
theorem dX12_laysWalks_121 : decode cX12_laysWalks 121 = .ok (.iload_n 3, 1) := by decide +kernel
theorem dX12_laysWalks_122 : decode cX12_laysWalks 122 = .ok (.iadd, 1) := by decide +kernel
theorem dX12_laysWalks_123 : decode cX12_laysWalks 123 = .ok (.iaload, 1) := by decide +kernel
theorem dX12_laysWalks_124 : decode cX12_laysWalks 124 = .ok (.iadd, 1) := by decide +kernel
theorem dX12_laysWalks_125 : decode cX12_laysWalks 125 = .ok (.aload_n 0, 1) := by decide +kernel
theorem dX12_laysWalks_126 : decode cX12_laysWalks 126 = .ok (.getfield 56, 3) := by decide +kernel
theorem dX12_laysWalks_129 : decode cX12_laysWalks 129 = .ok (.bipush 6, 2) := by decide +kernel
theorem dX12_laysWalks_131 : decode cX12_laysWalks 131 = .ok (.iload_n 2, 1) := by decide +kernel
theorem dX12_laysWalks_132 : decode cX12_laysWalks 132 = .ok (.imul, 1) := by decide +kernel
theorem dX12_laysWalks_133 : decode cX12_laysWalks 133 = .ok (.iload_n 3, 1) := by decide +kernel
theorem dX12_laysWalks_134 : decode cX12_laysWalks 134 = .ok (.iadd, 1) := by decide +kernel
theorem dX12_laysWalks_135 : decode cX12_laysWalks 135 = .ok (.iaload, 1) := by decide +kernel
theorem dX12_laysWalks_136 : decode cX12_laysWalks 136 = .ok (.if_icmp .ge 37, 3) := by decide +kernel
theorem dX12_laysWalks_139 : decode cX12_laysWalks 139 = .ok (.aload_n 0, 1) := by decide +kernel
theorem dX12_laysWalks_140 : decode cX12_laysWalks 140 = .ok (.getfield 56, 3) := by decide +kernel
theorem dX12_laysWalks_143 : decode cX12_laysWalks 143 = .ok (.bipush 6, 2) := by decide +kernel
theorem dX12_laysWalks_145 : decode cX12_laysWalks 145 = .ok (.iload_n 2, 1) := by decide +kernel
theorem dX12_laysWalks_146 : decode cX12_laysWalks 146 = .ok (.imul, 1) := by decide +kernel
theorem dX12_laysWalks_147 : decode cX12_laysWalks 147 = .ok (.iload_n 3, 1) := by decide +kernel
theorem dX12_laysWalks_148 : decode cX12_laysWalks 148 = .ok (.iadd, 1) := by decide +kernel
theorem dX12_laysWalks_149 : decode cX12_laysWalks 149 = .ok (.aload_n 0, 1) := by decide +kernel
theorem dX12_laysWalks_150 : decode cX12_laysWalks 150 = .ok (.getfield 56, 3) := by decide +kernel
theorem dX12_laysWalks_153 : decode cX12_laysWalks 153 = .ok (.bipush 6, 2) := by decide +kernel
theorem dX12_laysWalks_155 : decode cX12_laysWalks 155 = .ok (.iload_n 2, 1) := by decide +kernel
theorem dX12_laysWalks_156 : decode cX12_laysWalks 156 = .ok (.imul, 1) := by decide +kernel
theorem dX12_laysWalks_157 : decode cX12_laysWalks 157 = .ok (.iload_n 1, 1) := by decide +kernel
theorem dX12_laysWalks_158 : decode cX12_laysWalks 158 = .ok (.iadd, 1) := by decide +kernel
theorem dX12_laysWalks_159 : decode cX12_laysWalks 159 = .ok (.iaload, 1) := by decide +kernel
theorem dX12_laysWalks_160 : decode cX12_laysWalks 160 = .ok (.aload_n 0, 1) := by decide +kernel
theorem dX12_laysWalks_161 : decode cX12_laysWalks 161 = .ok (.getfield 56, 3) := by decide +kernel
theorem dX12_laysWalks_164 : decode cX12_laysWalks 164 = .ok (.bipush 6, 2) := by decide +kernel
theorem dX12_laysWalks_166 : decode cX12_laysWalks 166 = .ok (.iload_n 1, 1) := by decide +kernel
theorem dX12_laysWalks_167 : decode cX12_laysWalks 167 = .ok (.imul, 1) := by decide +kernel
theorem dX12_laysWalks_168 : decode cX12_laysWalks 168 = .ok (.iload_n 3, 1) := by decide +kernel
theorem dX12_laysWalks_169 : decode cX12_laysWalks 169 = .ok (.iadd, 1) := by decide +kernel
theorem dX12_laysWalks_170 : decode cX12_laysWalks 170 = .ok (.iaload, 1) := by decide +kernel
theorem dX12_laysWalks_171 : decode cX12_laysWalks 171 = .ok (.iadd, 1) := by decide +kernel
theorem dX12_laysWalks_172 : decode cX12_laysWalks 172 = .ok (.iastore, 1) := by decide +kernel
theorem dX12_laysWalks_173 : decode cX12_laysWalks 173 = .ok (.iinc 3 1, 3) := by decide +kernel
theorem dX12_laysWalks_176 : decode cX12_laysWalks 176 = .ok (.goto (-80), 3) := by decide +kernel
theorem dX12_laysWalks_179 : decode cX12_laysWalks 179 = .ok (.iinc 2 1, 3) := by decide +kernel
theorem dX12_laysWalks_182 : decode cX12_laysWalks 182 = .ok (.goto (-94), 3) := by decide +kernel
theorem dX12_laysWalks_185 : decode cX12_laysWalks 185 = .ok (.iinc 1 1, 3) := by decide +kernel
theorem dX12_laysWalks_188 : decode cX12_laysWalks 188 = .ok (.goto (-108), 3) := by decide +kernel
theorem dX12_laysWalks_191 : decode cX12_laysWalks 191 = .ok (.return_, 1) := by decide +kernel
theorem dX12_walk_0 : decode cX12_walk 0 = .ok (.aload_n 0, 1) := by decide +kernel
theorem dX12_walk_1 : decode cX12_walk 1 = .ok (.iconst 0, 1) := by decide +kernel
theorem dX12_walk_2 : decode cX12_walk 2 = .ok (.putfield 89, 3) := by decide +kernel
theorem dX12_walk_5 : decode cX12_walk 5 = .ok (.aload_n 0, 1) := by decide +kernel
theorem dX12_walk_6 : decode cX12_walk 6 = .ok (.iload_n 1, 1) := by decide +kernel
theorem dX12_walk_7 : decode cX12_walk 7 = .ok (.invokevirtual 294, 3) := by decide +kernel
theorem dX12_walk_10 : decode cX12_walk 10 = .ok (.ifCond .eq 11, 3) := by decide +kernel
theorem dX12_walk_13 : decode cX12_walk 13 = .ok (.aload_n 0, 1) := by decide +kernel
theorem dX12_walk_14 : decode cX12_walk 14 = .ok (.iload_n 2, 1) := by decide +kernel
theorem dX12_walk_15 : decode cX12_walk 15 = .ok (.invokevirtual 294, 3) := by decide +kernel
theorem dX12_walk_18 : decode cX12_walk 18 = .ok (.ifCond .ne 6, 3) := by decide +kernel
theorem dX12_walk_21 : decode cX12_walk 21 = .ok (.bipush (-2), 2) := by decide +kernel
theorem dX12_walk_23 : decode cX12_walk 23 = .ok (.ireturn, 1) := by decide +kernel
theorem dX12_walk_24 : decode cX12_walk 24 = .ok (.aload_n 0, 1) := by decide +kernel
theorem dX12_walk_25 : decode cX12_walk 25 = .ok (.invokevirtual 297, 3) := by decide +kernel
theorem dX12_walk_28 : decode cX12_walk 28 = .ok (.aload_n 0, 1) := by decide +kernel
theorem dX12_walk_29 : decode cX12_walk 29 = .ok (.getfield 56, 3) := by decide +kernel
theorem dX12_walk_32 : decode cX12_walk 32 = .ok (.bipush 6, 2) := by decide +kernel
theorem dX12_walk_34 : decode cX12_walk 34 = .ok (.iload_n 1, 1) := by decide +kernel
theorem dX12_walk_35 : decode cX12_walk 35 = .ok (.imul, 1) := by decide +kernel
theorem dX12_walk_36 : decode cX12_walk 36 = .ok (.iload_n 2, 1) := by decide +kernel
theorem dX12_walk_37 : decode cX12_walk 37 = .ok (.iadd, 1) := by decide +kernel
theorem dX12_walk_38 : decode cX12_walk 38 = .ok (.iaload, 1) := by decide +kernel
theorem dX12_walk_39 : decode cX12_walk 39 = .ok (.ldc 139, 2) := by decide +kernel
theorem dX12_walk_41 : decode cX12_walk 41 = .ok (.if_icmp .lt 7, 3) := by decide +kernel
theorem dX12_walk_44 : decode cX12_walk 44 = .ok (.iconst (-1), 1) := by decide +kernel
theorem dX12_walk_45 : decode cX12_walk 45 = .ok (.goto 14, 3) := by decide +kernel
theorem dX12_walk_48 : decode cX12_walk 48 = .ok (.aload_n 0, 1) := by decide +kernel
theorem dX12_walk_49 : decode cX12_walk 49 = .ok (.getfield 56, 3) := by decide +kernel
theorem dX12_walk_52 : decode cX12_walk 52 = .ok (.bipush 6, 2) := by decide +kernel
theorem dX12_walk_54 : decode cX12_walk 54 = .ok (.iload_n 1, 1) := by decide +kernel
theorem dX12_walk_55 : decode cX12_walk 55 = .ok (.imul, 1) := by decide +kernel
theorem dX12_walk_56 : decode cX12_walk 56 = .ok (.iload_n 2, 1) := by decide +kernel
theorem dX12_walk_57 : decode cX12_walk 57 = .ok (.iadd, 1) := by decide +kernel
theorem dX12_walk_58 : decode cX12_walk 58 = .ok (.iaload, 1) := by decide +kernel
theorem dX12_walk_59 : decode cX12_walk 59 = .ok (.ireturn, 1) := by decide +kernel
theorem dX12_permit_0 : decode cX12_permit 0 = .ok (.aload_n 0, 1) := by decide +kernel
theorem dX12_permit_1 : decode cX12_permit 1 = .ok (.iconst 0, 1) := by decide +kernel
theorem dX12_permit_2 : decode cX12_permit 2 = .ok (.putfield 89, 3) := by decide +kernel
theorem dX12_permit_5 : decode cX12_permit 5 = .ok (.aload_n 0, 1) := by decide +kernel
theorem dX12_permit_6 : decode cX12_permit 6 = .ok (.invokevirtual 267, 3) := by decide +kernel
theorem dX12_permit_9 : decode cX12_permit 9 = .ok (.ifCond .eq 12, 3) := by decide +kernel
theorem dX12_permit_12 : decode cX12_permit 12 = .ok (.aload_n 0, 1) := by decide +kernel
theorem dX12_permit_13 : decode cX12_permit 13 = .ok (.getfield 34, 3) := by decide +kernel
theorem dX12_permit_16 : decode cX12_permit 16 = .ok (.iconst 4, 1) := by decide +kernel
theorem dX12_permit_17 : decode cX12_permit 17 = .ok (.iaload, 1) := by decide +kernel
theorem dX12_permit_18 : decode cX12_permit 18 = .ok (.goto 5, 3) := by decide +kernel
theorem dX12_permit_21 : decode cX12_permit 21 = .ok (.bipush (-2), 2) := by decide +kernel
theorem dX12_permit_23 : decode cX12_permit 23 = .ok (.ireturn, 1) := by decide +kernel
theorem dX12_starts_0 : decode cX12_starts 0 = .ok (.aload_n 0, 1) := by decide +kernel
theorem dX12_starts_1 : decode cX12_starts 1 = .ok (.invokevirtual 297, 3) := by decide +kernel
theorem dX12_starts_4 : decode cX12_starts 4 = .ok (.aload_n 0, 1) := by decide +kernel
theorem dX12_starts_5 : decode cX12_starts 5 = .ok (.iload_n 1, 1) := by decide +kernel
theorem dX12_starts_6 : decode cX12_starts 6 = .ok (.putfield 300, 3) := by decide +kernel
theorem dX12_starts_9 : decode cX12_starts 9 = .ok (.aload_n 0, 1) := by decide +kernel
theorem dX12_starts_10 : decode cX12_starts 10 = .ok (.aload_n 0, 1) := by decide +kernel
theorem dX12_starts_11 : decode cX12_starts 11 = .ok (.getfield 34, 3) := by decide +kernel
theorem dX12_starts_14 : decode cX12_starts 14 = .ok (.iconst 1, 1) := by decide +kernel
theorem dX12_starts_15 : decode cX12_starts 15 = .ok (.iaload, 1) := by decide +kernel
theorem dX12_starts_16 : decode cX12_starts 16 = .ok (.putfield 303, 3) := by decide +kernel
theorem dX12_starts_19 : decode cX12_starts 19 = .ok (.aload_n 0, 1) := by decide +kernel
theorem dX12_starts_20 : decode cX12_starts 20 = .ok (.iconst 0, 1) := by decide +kernel
theorem dX12_starts_21 : decode cX12_starts 21 = .ok (.putfield 306, 3) := by decide +kernel
theorem dX12_starts_24 : decode cX12_starts 24 = .ok (.aload_n 0, 1) := by decide +kernel
theorem dX12_starts_25 : decode cX12_starts 25 = .ok (.iconst 0, 1) := by decide +kernel
theorem dX12_starts_26 : decode cX12_starts 26 = .ok (.putfield 309, 3) := by decide +kernel
theorem dX12_starts_29 : decode cX12_starts 29 = .ok (.iconst 0, 1) := by decide +kernel
theorem dX12_starts_30 : decode cX12_starts 30 = .ok (.istore_n 2, 1) := by decide +kernel
theorem dX12_starts_31 : decode cX12_starts 31 = .ok (.iload_n 2, 1) := by decide +kernel
theorem dX12_starts_32 : decode cX12_starts 32 = .ok (.bipush 8, 2) := by decide +kernel
theorem dX12_starts_34 : decode cX12_starts 34 = .ok (.if_icmp .ge 16, 3) := by decide +kernel
theorem dX12_starts_37 : decode cX12_starts 37 = .ok (.aload_n 0, 1) := by decide +kernel
theorem dX12_starts_38 : decode cX12_starts 38 = .ok (.getfield 59, 3) := by decide +kernel
theorem dX12_starts_41 : decode cX12_starts 41 = .ok (.iload_n 2, 1) := by decide +kernel
theorem dX12_starts_42 : decode cX12_starts 42 = .ok (.iconst (-1), 1) := by decide +kernel
theorem dX12_starts_43 : decode cX12_starts 43 = .ok (.iastore, 1) := by decide +kernel
theorem dX12_starts_44 : decode cX12_starts 44 = .ok (.iinc 2 1, 3) := by decide +kernel
theorem dX12_starts_47 : decode cX12_starts 47 = .ok (.goto (-16), 3) := by decide +kernel
theorem dX12_starts_50 : decode cX12_starts 50 = .ok (.return_, 1) := by decide +kernel
theorem dX12_isHeld_0 : decode cX12_isHeld 0 = .ok (.aload_n 0, 1) := by decide +kernel
theorem dX12_isHeld_1 : decode cX12_isHeld 1 = .ok (.getfield 59, 3) := by decide +kernel
theorem dX12_isHeld_4 : decode cX12_isHeld 4 = .ok (.iload_n 1, 1) := by decide +kernel
theorem dX12_isHeld_5 : decode cX12_isHeld 5 = .ok (.iaload, 1) := by decide +kernel
theorem dX12_isHeld_6 : decode cX12_isHeld 6 = .ok (.iconst (-1), 1) := by decide +kernel
theorem dX12_isHeld_7 : decode cX12_isHeld 7 = .ok (.if_icmp .eq 17, 3) := by decide +kernel
theorem dX12_isHeld_10 : decode cX12_isHeld 10 = .ok (.iload_n 2, 1) := by decide +kernel
theorem dX12_isHeld_11 : decode cX12_isHeld 11 = .ok (.aload_n 0, 1) := by decide +kernel
theorem dX12_isHeld_12 : decode cX12_isHeld 12 = .ok (.getfield 59, 3) := by decide +kernel
theorem dX12_isHeld_15 : decode cX12_isHeld 15 = .ok (.iload_n 1, 1) := by decide +kernel
theorem dX12_isHeld_16 : decode cX12_isHeld 16 = .ok (.iaload, 1) := by decide +kernel
theorem dX12_isHeld_17 : decode cX12_isHeld 17 = .ok (.if_icmp .gt 7, 3) := by decide +kernel
theorem dX12_isHeld_20 : decode cX12_isHeld 20 = .ok (.iconst 1, 1) := by decide +kernel
theorem dX12_isHeld_21 : decode cX12_isHeld 21 = .ok (.goto 4, 3) := by decide +kernel
theorem dX12_isHeld_24 : decode cX12_isHeld 24 = .ok (.iconst 0, 1) := by decide +kernel
theorem dX12_isHeld_25 : decode cX12_isHeld 25 = .ok (.ireturn, 1) := by decide +kernel
theorem dX12_heldIn_0 : decode cX12_heldIn 0 = .ok (.iconst 0, 1) := by decide +kernel
theorem dX12_heldIn_1 : decode cX12_heldIn 1 = .ok (.istore_n 2, 1) := by decide +kernel
theorem dX12_heldIn_2 : decode cX12_heldIn 2 = .ok (.iconst 0, 1) := by decide +kernel
theorem dX12_heldIn_3 : decode cX12_heldIn 3 = .ok (.istore_n 3, 1) := by decide +kernel
theorem dX12_heldIn_4 : decode cX12_heldIn 4 = .ok (.iload_n 3, 1) := by decide +kernel
theorem dX12_heldIn_5 : decode cX12_heldIn 5 = .ok (.aload_n 0, 1) := by decide +kernel
theorem dX12_heldIn_6 : decode cX12_heldIn 6 = .ok (.getfield 34, 3) := by decide +kernel
theorem dX12_heldIn_9 : decode cX12_heldIn 9 = .ok (.iconst 3, 1) := by decide +kernel
theorem dX12_heldIn_10 : decode cX12_heldIn 10 = .ok (.iaload, 1) := by decide +kernel
theorem dX12_heldIn_11 : decode cX12_heldIn 11 = .ok (.if_icmp .ge 28, 3) := by decide +kernel
theorem dX12_heldIn_14 : decode cX12_heldIn 14 = .ok (.iload_n 2, 1) := by decide +kernel
theorem dX12_heldIn_15 : decode cX12_heldIn 15 = .ok (.aload_n 0, 1) := by decide +kernel
theorem dX12_heldIn_16 : decode cX12_heldIn 16 = .ok (.iload_n 3, 1) := by decide +kernel
theorem dX12_heldIn_17 : decode cX12_heldIn 17 = .ok (.iload_n 1, 1) := by decide +kernel
theorem dX12_heldIn_18 : decode cX12_heldIn 18 = .ok (.invokevirtual 312, 3) := by decide +kernel
theorem dX12_heldIn_21 : decode cX12_heldIn 21 = .ok (.ifCond .eq 9, 3) := by decide +kernel
theorem dX12_heldIn_24 : decode cX12_heldIn 24 = .ok (.iconst 1, 1) := by decide +kernel
theorem dX12_heldIn_25 : decode cX12_heldIn 25 = .ok (.iload_n 3, 1) := by decide +kernel
theorem dX12_heldIn_26 : decode cX12_heldIn 26 = .ok (.ishl, 1) := by decide +kernel
theorem dX12_heldIn_27 : decode cX12_heldIn 27 = .ok (.goto 4, 3) := by decide +kernel
theorem dX12_heldIn_30 : decode cX12_heldIn 30 = .ok (.iconst 0, 1) := by decide +kernel
theorem dX12_heldIn_31 : decode cX12_heldIn 31 = .ok (.ior, 1) := by decide +kernel
theorem dX12_heldIn_32 : decode cX12_heldIn 32 = .ok (.istore_n 2, 1) := by decide +kernel
theorem dX12_heldIn_33 : decode cX12_heldIn 33 = .ok (.iinc 3 1, 3) := by decide +kernel
theorem dX12_heldIn_36 : decode cX12_heldIn 36 = .ok (.goto (-32), 3) := by decide +kernel
theorem dX12_heldIn_39 : decode cX12_heldIn 39 = .ok (.iload_n 2, 1) := by decide +kernel
theorem dX12_heldIn_40 : decode cX12_heldIn 40 = .ok (.ireturn, 1) := by decide +kernel
theorem dX12_heldNow_0 : decode cX12_heldNow 0 = .ok (.aload_n 0, 1) := by decide +kernel
theorem dX12_heldNow_1 : decode cX12_heldNow 1 = .ok (.aload_n 0, 1) := by decide +kernel
theorem dX12_heldNow_2 : decode cX12_heldNow 2 = .ok (.getfield 300, 3) := by decide +kernel
theorem dX12_heldNow_5 : decode cX12_heldNow 5 = .ok (.invokevirtual 315, 3) := by decide +kernel
theorem dX12_heldNow_8 : decode cX12_heldNow 8 = .ok (.ireturn, 1) := by decide +kernel
theorem dX12_isFree_0 : decode cX12_isFree 0 = .ok (.aload_n 0, 1) := by decide +kernel
theorem dX12_isFree_1 : decode cX12_isFree 1 = .ok (.iload_n 1, 1) := by decide +kernel
theorem dX12_isFree_2 : decode cX12_isFree 2 = .ok (.iload_n 2, 1) := by decide +kernel
theorem dX12_isFree_3 : decode cX12_isFree 3 = .ok (.invokevirtual 291, 3) := by decide +kernel
theorem dX12_isFree_6 : decode cX12_isFree 6 = .ok (.ifCond .eq 29, 3) := by decide +kernel
theorem dX12_isFree_9 : decode cX12_isFree 9 = .ok (.aload_n 0, 1) := by decide +kernel
theorem dX12_isFree_10 : decode cX12_isFree 10 = .ok (.getfield 318, 3) := by decide +kernel
theorem dX12_isFree_13 : decode cX12_isFree 13 = .ok (.ifCond .eq 18, 3) := by decide +kernel
theorem dX12_isFree_16 : decode cX12_isFree 16 = .ok (.aload_n 0, 1) := by decide +kernel
theorem dX12_isFree_17 : decode cX12_isFree 17 = .ok (.getfield 62, 3) := by decide +kernel
theorem dX12_isFree_20 : decode cX12_isFree 20 = .ok (.sipush 400, 3) := by decide +kernel
theorem dX12_isFree_23 : decode cX12_isFree 23 = .ok (.iload_n 1, 1) := by decide +kernel
theorem dX12_isFree_24 : decode cX12_isFree 24 = .ok (.imul, 1) := by decide +kernel
theorem dX12_isFree_25 : decode cX12_isFree 25 = .ok (.iload_n 2, 1) := by decide +kernel
theorem dX12_isFree_26 : decode cX12_isFree 26 = .ok (.iadd, 1) := by decide +kernel
theorem dX12_isFree_27 : decode cX12_isFree 27 = .ok (.baload, 1) := by decide +kernel
theorem dX12_isFree_28 : decode cX12_isFree 28 = .ok (.ifCond .ne 7, 3) := by decide +kernel
theorem dX12_isFree_31 : decode cX12_isFree 31 = .ok (.iconst 1, 1) := by decide +kernel
theorem dX12_isFree_32 : decode cX12_isFree 32 = .ok (.goto 4, 3) := by decide +kernel
theorem dX12_isFree_35 : decode cX12_isFree 35 = .ok (.iconst 0, 1) := by decide +kernel
theorem dX12_isFree_36 : decode cX12_isFree 36 = .ok (.ireturn, 1) := by decide +kernel
theorem dX12_stampsIn_0 : decode cX12_stampsIn 0 = .ok (.aload_n 0, 1) := by decide +kernel
theorem dX12_stampsIn_1 : decode cX12_stampsIn 1 = .ok (.getfield 56, 3) := by decide +kernel
theorem dX12_stampsIn_4 : decode cX12_stampsIn 4 = .ok (.bipush 6, 2) := by decide +kernel
theorem dX12_stampsIn_6 : decode cX12_stampsIn 6 = .ok (.aload_n 0, 1) := by decide +kernel
theorem dX12_stampsIn_7 : decode cX12_stampsIn 7 = .ok (.getfield 303, 3) := by decide +kernel
theorem dX12_stampsIn_10 : decode cX12_stampsIn 10 = .ok (.imul, 1) := by decide +kernel
theorem dX12_stampsIn_11 : decode cX12_stampsIn 11 = .ok (.aload_n 0, 1) := by decide +kernel
theorem dX12_stampsIn_12 : decode cX12_stampsIn 12 = .ok (.iload_n 1, 1) := by decide +kernel
theorem dX12_stampsIn_13 : decode cX12_stampsIn 13 = .ok (.iconst 0, 1) := by decide +kernel
theorem dX12_stampsIn_14 : decode cX12_stampsIn 14 = .ok (.invokevirtual 275, 3) := by decide +kernel
theorem dX12_stampsIn_17 : decode cX12_stampsIn 17 = .ok (.iadd, 1) := by decide +kernel
theorem dX12_stampsIn_18 : decode cX12_stampsIn 18 = .ok (.iaload, 1) := by decide +kernel
theorem dX12_stampsIn_19 : decode cX12_stampsIn 19 = .ok (.istore_n 2, 1) := by decide +kernel
theorem dX12_stampsIn_20 : decode cX12_stampsIn 20 = .ok (.aload_n 0, 1) := by decide +kernel
theorem dX12_stampsIn_21 : decode cX12_stampsIn 21 = .ok (.iload_n 1, 1) := by decide +kernel
theorem dX12_stampsIn_22 : decode cX12_stampsIn 22 = .ok (.aload_n 0, 1) := by decide +kernel
theorem dX12_stampsIn_23 : decode cX12_stampsIn 23 = .ok (.getfield 300, 3) := by decide +kernel
theorem dX12_stampsIn_26 : decode cX12_stampsIn 26 = .ok (.invokevirtual 312, 3) := by decide +kernel
theorem dX12_stampsIn_29 : decode cX12_stampsIn 29 = .ok (.ifCond .ne 9, 3) := by decide +kernel
theorem dX12_stampsIn_32 : decode cX12_stampsIn 32 = .ok (.iload_n 2, 1) := by decide +kernel
theorem dX12_stampsIn_33 : decode cX12_stampsIn 33 = .ok (.ldc 139, 2) := by decide +kernel
theorem dX12_stampsIn_35 : decode cX12_stampsIn 35 = .ok (.if_icmp .lt 5, 3) := by decide +kernel
theorem dX12_stampsIn_38 : decode cX12_stampsIn 38 = .ok (.iconst (-1), 1) := by decide +kernel
theorem dX12_stampsIn_39 : decode cX12_stampsIn 39 = .ok (.ireturn, 1) := by decide +kernel
theorem dX12_stampsIn_40 : decode cX12_stampsIn 40 = .ok (.aload_n 0, 1) := by decide +kernel
theorem dX12_stampsIn_41 : decode cX12_stampsIn 41 = .ok (.getfield 300, 3) := by decide +kernel
theorem dX12_stampsIn_44 : decode cX12_stampsIn 44 = .ok (.iload_n 2, 1) := by decide +kernel
theorem dX12_stampsIn_45 : decode cX12_stampsIn 45 = .ok (.iadd, 1) := by decide +kernel
theorem dX12_stampsIn_46 : decode cX12_stampsIn 46 = .ok (.istore_n 3, 1) := by decide +kernel
theorem dX12_stampsIn_47 : decode cX12_stampsIn 47 = .ok (.iload_n 3, 1) := by decide +kernel
theorem dX12_stampsIn_48 : decode cX12_stampsIn 48 = .ok (.sipush 400, 3) := by decide +kernel
theorem dX12_stampsIn_51 : decode cX12_stampsIn 51 = .ok (.if_icmp .ge 56, 3) := by decide +kernel
theorem dX12_stampsIn_54 : decode cX12_stampsIn 54 = .ok (.aload_n 0, 1) := by decide +kernel
theorem dX12_stampsIn_55 : decode cX12_stampsIn 55 = .ok (.iload_n 1, 1) := by decide +kernel
theorem dX12_stampsIn_56 : decode cX12_stampsIn 56 = .ok (.iload_n 3, 1) := by decide +kernel
theorem dX12_stampsIn_57 : decode cX12_stampsIn 57 = .ok (.invokevirtual 322, 3) := by decide +kernel
theorem dX12_stampsIn_60 : decode cX12_stampsIn 60 = .ok (.ifCond .ne 6, 3) := by decide +kernel
theorem dX12_stampsIn_63 : decode cX12_stampsIn 63 = .ok (.goto 38, 3) := by decide +kernel
theorem dX12_stampsIn_66 : decode cX12_stampsIn 66 = .ok (.aload_n 0, 1) := by decide +kernel
theorem dX12_stampsIn_67 : decode cX12_stampsIn 67 = .ok (.iload_n 3, 1) := by decide +kernel
theorem dX12_stampsIn_68 : decode cX12_stampsIn 68 = .ok (.invokevirtual 315, 3) := by decide +kernel
theorem dX12_stampsIn_71 : decode cX12_stampsIn 71 = .ok (.istore 4, 2) := by decide +kernel
theorem dX12_stampsIn_73 : decode cX12_stampsIn 73 = .ok (.aload_n 0, 1) := by decide +kernel
theorem dX12_stampsIn_74 : decode cX12_stampsIn 74 = .ok (.getfield 40, 3) := by decide +kernel
theorem dX12_stampsIn_77 : decode cX12_stampsIn 77 = .ok (.iload_n 1, 1) := by decide +kernel
theorem dX12_stampsIn_78 : decode cX12_stampsIn 78 = .ok (.iaload, 1) := by decide +kernel
theorem dX12_stampsIn_79 : decode cX12_stampsIn 79 = .ok (.iload 4, 2) := by decide +kernel
theorem dX12_stampsIn_81 : decode cX12_stampsIn 81 = .ok (.iconst (-1), 1) := by decide +kernel
theorem dX12_stampsIn_82 : decode cX12_stampsIn 82 = .ok (.ixor, 1) := by decide +kernel
theorem dX12_stampsIn_83 : decode cX12_stampsIn 83 = .ok (.iand, 1) := by decide +kernel
theorem dX12_stampsIn_84 : decode cX12_stampsIn 84 = .ok (.ifCond .ne 17, 3) := by decide +kernel
theorem dX12_stampsIn_87 : decode cX12_stampsIn 87 = .ok (.aload_n 0, 1) := by decide +kernel
theorem dX12_stampsIn_88 : decode cX12_stampsIn 88 = .ok (.getfield 43, 3) := by decide +kernel
theorem dX12_stampsIn_91 : decode cX12_stampsIn 91 = .ok (.iload_n 1, 1) := by decide +kernel
theorem dX12_stampsIn_92 : decode cX12_stampsIn 92 = .ok (.iaload, 1) := by decide +kernel
theorem dX12_stampsIn_93 : decode cX12_stampsIn 93 = .ok (.iload 4, 2) := by decide +kernel
theorem dX12_stampsIn_95 : decode cX12_stampsIn 95 = .ok (.iand, 1) := by decide +kernel
theorem dX12_stampsIn_96 : decode cX12_stampsIn 96 = .ok (.ifCond .ne 5, 3) := by decide +kernel
theorem dX12_stampsIn_99 : decode cX12_stampsIn 99 = .ok (.iload_n 3, 1) := by decide +kernel
theorem dX12_stampsIn_100 : decode cX12_stampsIn 100 = .ok (.ireturn, 1) := by decide +kernel
theorem dX12_stampsIn_101 : decode cX12_stampsIn 101 = .ok (.iinc 3 1, 3) := by decide +kernel
theorem dX12_stampsIn_104 : decode cX12_stampsIn 104 = .ok (.goto (-57), 3) := by decide +kernel
theorem dX12_stampsIn_107 : decode cX12_stampsIn 107 = .ok (.iconst (-1), 1) := by decide +kernel
theorem dX12_stampsIn_108 : decode cX12_stampsIn 108 = .ok (.ireturn, 1) := by decide +kernel
theorem dX12_goesTo_0 : decode cX12_goesTo 0 = .ok (.aload_n 0, 1) := by decide +kernel
theorem dX12_goesTo_1 : decode cX12_goesTo 1 = .ok (.dup, 1) := by decide +kernel
theorem dX12_goesTo_2 : decode cX12_goesTo 2 = .ok (.getfield 306, 3) := by decide +kernel
theorem dX12_goesTo_5 : decode cX12_goesTo 5 = .ok (.aload_n 0, 1) := by decide +kernel
theorem dX12_goesTo_6 : decode cX12_goesTo 6 = .ok (.getfield 56, 3) := by decide +kernel
theorem dX12_goesTo_9 : decode cX12_goesTo 9 = .ok (.bipush 6, 2) := by decide +kernel
theorem dX12_goesTo_11 : decode cX12_goesTo 11 = .ok (.aload_n 0, 1) := by decide +kernel
theorem dX12_goesTo_12 : decode cX12_goesTo 12 = .ok (.getfield 303, 3) := by decide +kernel
theorem dX12_goesTo_15 : decode cX12_goesTo 15 = .ok (.imul, 1) := by decide +kernel
theorem dX12_goesTo_16 : decode cX12_goesTo 16 = .ok (.aload_n 0, 1) := by decide +kernel
theorem dX12_goesTo_17 : decode cX12_goesTo 17 = .ok (.iload_n 1, 1) := by decide +kernel
theorem dX12_goesTo_18 : decode cX12_goesTo 18 = .ok (.iconst 0, 1) := by decide +kernel
theorem dX12_goesTo_19 : decode cX12_goesTo 19 = .ok (.invokevirtual 275, 3) := by decide +kernel
theorem dX12_goesTo_22 : decode cX12_goesTo 22 = .ok (.iadd, 1) := by decide +kernel
theorem dX12_goesTo_23 : decode cX12_goesTo 23 = .ok (.iaload, 1) := by decide +kernel
theorem dX12_goesTo_24 : decode cX12_goesTo 24 = .ok (.iadd, 1) := by decide +kernel
theorem dX12_goesTo_25 : decode cX12_goesTo 25 = .ok (.putfield 306, 3) := by decide +kernel
theorem dX12_goesTo_28 : decode cX12_goesTo 28 = .ok (.aload_n 0, 1) := by decide +kernel
theorem dX12_goesTo_29 : decode cX12_goesTo 29 = .ok (.dup, 1) := by decide +kernel
theorem dX12_goesTo_30 : decode cX12_goesTo 30 = .ok (.getfield 309, 3) := by decide +kernel
theorem dX12_goesTo_33 : decode cX12_goesTo 33 = .ok (.aload_n 0, 1) := by decide +kernel
theorem dX12_goesTo_34 : decode cX12_goesTo 34 = .ok (.iload_n 1, 1) := by decide +kernel
theorem dX12_goesTo_35 : decode cX12_goesTo 35 = .ok (.bipush 6, 2) := by decide +kernel
theorem dX12_goesTo_37 : decode cX12_goesTo 37 = .ok (.invokevirtual 275, 3) := by decide +kernel
theorem dX12_goesTo_40 : decode cX12_goesTo 40 = .ok (.iadd, 1) := by decide +kernel
theorem dX12_goesTo_41 : decode cX12_goesTo 41 = .ok (.putfield 309, 3) := by decide +kernel
theorem dX12_goesTo_44 : decode cX12_goesTo 44 = .ok (.aload_n 0, 1) := by decide +kernel
theorem dX12_goesTo_45 : decode cX12_goesTo 45 = .ok (.aload_n 0, 1) := by decide +kernel
theorem dX12_goesTo_46 : decode cX12_goesTo 46 = .ok (.iload_n 1, 1) := by decide +kernel
theorem dX12_goesTo_47 : decode cX12_goesTo 47 = .ok (.iconst 0, 1) := by decide +kernel
theorem dX12_goesTo_48 : decode cX12_goesTo 48 = .ok (.invokevirtual 275, 3) := by decide +kernel
theorem dX12_goesTo_51 : decode cX12_goesTo 51 = .ok (.putfield 303, 3) := by decide +kernel
theorem dX12_goesTo_54 : decode cX12_goesTo 54 = .ok (.aload_n 0, 1) := by decide +kernel
theorem dX12_goesTo_55 : decode cX12_goesTo 55 = .ok (.iload_n 2, 1) := by decide +kernel
theorem dX12_goesTo_56 : decode cX12_goesTo 56 = .ok (.iconst 1, 1) := by decide +kernel
theorem dX12_goesTo_57 : decode cX12_goesTo 57 = .ok (.iadd, 1) := by decide +kernel
theorem dX12_goesTo_58 : decode cX12_goesTo 58 = .ok (.putfield 300, 3) := by decide +kernel
theorem dX12_goesTo_61 : decode cX12_goesTo 61 = .ok (.aload_n 0, 1) := by decide +kernel
theorem dX12_goesTo_62 : decode cX12_goesTo 62 = .ok (.getfield 59, 3) := by decide +kernel
theorem dX12_goesTo_65 : decode cX12_goesTo 65 = .ok (.iload_n 1, 1) := by decide +kernel
theorem dX12_goesTo_66 : decode cX12_goesTo 66 = .ok (.aload_n 0, 1) := by decide +kernel
theorem dX12_goesTo_67 : decode cX12_goesTo 67 = .ok (.iload_n 1, 1) := by decide +kernel
theorem dX12_goesTo_68 : decode cX12_goesTo 68 = .ok (.iconst 5, 1) := by decide +kernel
theorem dX12_goesTo_69 : decode cX12_goesTo 69 = .ok (.invokevirtual 275, 3) := by decide +kernel
theorem dX12_goesTo_72 : decode cX12_goesTo 72 = .ok (.iconst (-1), 1) := by decide +kernel
theorem dX12_goesTo_73 : decode cX12_goesTo 73 = .ok (.if_icmp .ne 9, 3) := by decide +kernel
theorem dX12_goesTo_76 : decode cX12_goesTo 76 = .ok (.sipush 9999, 3) := by decide +kernel
theorem dX12_goesTo_79 : decode cX12_goesTo 79 = .ok (.goto 14, 3) := by decide +kernel
theorem dX12_goesTo_82 : decode cX12_goesTo 82 = .ok (.iload_n 2, 1) := by decide +kernel
theorem dX12_goesTo_83 : decode cX12_goesTo 83 = .ok (.bipush 10, 2) := by decide +kernel
theorem dX12_goesTo_85 : decode cX12_goesTo 85 = .ok (.aload_n 0, 1) := by decide +kernel
theorem dX12_goesTo_86 : decode cX12_goesTo 86 = .ok (.iload_n 1, 1) := by decide +kernel
theorem dX12_goesTo_87 : decode cX12_goesTo 87 = .ok (.iconst 5, 1) := by decide +kernel
theorem dX12_goesTo_88 : decode cX12_goesTo 88 = .ok (.invokevirtual 275, 3) := by decide +kernel
theorem dX12_goesTo_91 : decode cX12_goesTo 91 = .ok (.imul, 1) := by decide +kernel
theorem dX12_goesTo_92 : decode cX12_goesTo 92 = .ok (.iadd, 1) := by decide +kernel
theorem dX12_goesTo_93 : decode cX12_goesTo 93 = .ok (.iastore, 1) := by decide +kernel
theorem dX12_goesTo_94 : decode cX12_goesTo 94 = .ok (.return_, 1) := by decide +kernel
theorem dX12_lays_0 : decode cX12_lays 0 = .ok (.aload_n 0, 1) := by decide +kernel
theorem dX12_lays_1 : decode cX12_lays 1 = .ok (.aload_n 0, 1) := by decide +kernel
theorem dX12_lays_2 : decode cX12_lays 2 = .ok (.getfield 34, 3) := by decide +kernel
theorem dX12_lays_5 : decode cX12_lays 5 = .ok (.iconst 2, 1) := by decide +kernel
theorem dX12_lays_6 : decode cX12_lays 6 = .ok (.iaload, 1) := by decide +kernel
theorem dX12_lays_7 : decode cX12_lays 7 = .ok (.invokevirtual 325, 3) := by decide +kernel
theorem dX12_lays_10 : decode cX12_lays 10 = .ok (.iconst 0, 1) := by decide +kernel
theorem dX12_lays_11 : decode cX12_lays 11 = .ok (.istore_n 1, 1) := by decide +kernel
theorem dX12_lays_12 : decode cX12_lays 12 = .ok (.iload_n 1, 1) := by decide +kernel
theorem dX12_lays_13 : decode cX12_lays 13 = .ok (.aload_n 0, 1) := by decide +kernel
theorem dX12_lays_14 : decode cX12_lays 14 = .ok (.getfield 34, 3) := by decide +kernel
theorem dX12_lays_17 : decode cX12_lays 17 = .ok (.iconst 5, 1) := by decide +kernel
theorem dX12_lays_18 : decode cX12_lays 18 = .ok (.iaload, 1) := by decide +kernel
theorem dX12_lays_19 : decode cX12_lays 19 = .ok (.if_icmp .ge 61, 3) := by decide +kernel
theorem dX12_lays_22 : decode cX12_lays 22 = .ok (.aload_n 0, 1) := by decide +kernel
theorem dX12_lays_23 : decode cX12_lays 23 = .ok (.getfield 49, 3) := by decide +kernel
theorem dX12_lays_26 : decode cX12_lays 26 = .ok (.iload_n 1, 1) := by decide +kernel
theorem dX12_lays_27 : decode cX12_lays 27 = .ok (.iaload, 1) := by decide +kernel
theorem dX12_lays_28 : decode cX12_lays 28 = .ok (.bipush 9, 2) := by decide +kernel
theorem dX12_lays_30 : decode cX12_lays 30 = .ok (.if_icmp .le 24, 3) := by decide +kernel
theorem dX12_lays_33 : decode cX12_lays 33 = .ok (.aload_n 0, 1) := by decide +kernel
theorem dX12_lays_34 : decode cX12_lays 34 = .ok (.dup, 1) := by decide +kernel
theorem dX12_lays_35 : decode cX12_lays 35 = .ok (.getfield 300, 3) := by decide +kernel
theorem dX12_lays_38 : decode cX12_lays 38 = .ok (.aload_n 0, 1) := by decide +kernel
theorem dX12_lays_39 : decode cX12_lays 39 = .ok (.getfield 49, 3) := by decide +kernel
theorem dX12_lays_42 : decode cX12_lays 42 = .ok (.iload_n 1, 1) := by decide +kernel
theorem dX12_lays_43 : decode cX12_lays 43 = .ok (.iaload, 1) := by decide +kernel
theorem dX12_lays_44 : decode cX12_lays 44 = .ok (.bipush 10, 2) := by decide +kernel
theorem dX12_lays_46 : decode cX12_lays 46 = .ok (.isub, 1) := by decide +kernel
theorem dX12_lays_47 : decode cX12_lays 47 = .ok (.iadd, 1) := by decide +kernel
theorem dX12_lays_48 : decode cX12_lays 48 = .ok (.putfield 300, 3) := by decide +kernel
theorem dX12_lays_51 : decode cX12_lays 51 = .ok (.goto 23, 3) := by decide +kernel
theorem dX12_lays_54 : decode cX12_lays 54 = .ok (.aload_n 0, 1) := by decide +kernel
theorem dX12_lays_55 : decode cX12_lays 55 = .ok (.aload_n 0, 1) := by decide +kernel
theorem dX12_lays_56 : decode cX12_lays 56 = .ok (.getfield 49, 3) := by decide +kernel
theorem dX12_lays_59 : decode cX12_lays 59 = .ok (.iload_n 1, 1) := by decide +kernel
theorem dX12_lays_60 : decode cX12_lays 60 = .ok (.iaload, 1) := by decide +kernel
theorem dX12_lays_61 : decode cX12_lays 61 = .ok (.aload_n 0, 1) := by decide +kernel
theorem dX12_lays_62 : decode cX12_lays 62 = .ok (.aload_n 0, 1) := by decide +kernel
theorem dX12_lays_63 : decode cX12_lays 63 = .ok (.getfield 49, 3) := by decide +kernel
theorem dX12_lays_66 : decode cX12_lays 66 = .ok (.iload_n 1, 1) := by decide +kernel
theorem dX12_lays_67 : decode cX12_lays 67 = .ok (.iaload, 1) := by decide +kernel
theorem dX12_lays_68 : decode cX12_lays 68 = .ok (.invokevirtual 328, 3) := by decide +kernel
theorem dX12_lays_71 : decode cX12_lays 71 = .ok (.invokevirtual 331, 3) := by decide +kernel
theorem dX12_lays_74 : decode cX12_lays 74 = .ok (.iinc 1 1, 3) := by decide +kernel
theorem dX12_lays_77 : decode cX12_lays 77 = .ok (.goto (-65), 3) := by decide +kernel
theorem dX12_lays_80 : decode cX12_lays 80 = .ok (.return_, 1) := by decide +kernel
theorem dX12_now_0 : decode cX12_now 0 = .ok (.aload_n 0, 1) := by decide +kernel
theorem dX12_now_1 : decode cX12_now 1 = .ok (.iconst 0, 1) := by decide +kernel
theorem dX12_now_2 : decode cX12_now 2 = .ok (.putfield 89, 3) := by decide +kernel
theorem dX12_now_5 : decode cX12_now 5 = .ok (.aload_n 0, 1) := by decide +kernel
theorem dX12_now_6 : decode cX12_now 6 = .ok (.invokevirtual 267, 3) := by decide +kernel
theorem dX12_now_9 : decode cX12_now 9 = .ok (.ifCond .ne 6, 3) := by decide +kernel
theorem dX12_now_12 : decode cX12_now 12 = .ok (.bipush (-2), 2) := by decide +kernel
theorem dX12_now_14 : decode cX12_now 14 = .ok (.ireturn, 1) := by decide +kernel
theorem dX12_now_15 : decode cX12_now 15 = .ok (.aload_n 0, 1) := by decide +kernel
theorem dX12_now_16 : decode cX12_now 16 = .ok (.invokevirtual 334, 3) := by decide +kernel
theorem dX12_now_19 : decode cX12_now 19 = .ok (.aload_n 0, 1) := by decide +kernel
theorem dX12_now_20 : decode cX12_now 20 = .ok (.getfield 300, 3) := by decide +kernel
theorem dX12_now_23 : decode cX12_now 23 = .ok (.ireturn, 1) := by decide +kernel
theorem dX12_room_0 : decode cX12_room 0 = .ok (.aload_n 0, 1) := by decide +kernel
theorem dX12_room_1 : decode cX12_room 1 = .ok (.iconst 0, 1) := by decide +kernel
theorem dX12_room_2 : decode cX12_room 2 = .ok (.putfield 89, 3) := by decide +kernel
theorem dX12_room_5 : decode cX12_room 5 = .ok (.aload_n 0, 1) := by decide +kernel
theorem dX12_room_6 : decode cX12_room 6 = .ok (.invokevirtual 267, 3) := by decide +kernel
theorem dX12_room_9 : decode cX12_room 9 = .ok (.ifCond .ne 6, 3) := by decide +kernel
theorem dX12_room_12 : decode cX12_room 12 = .ok (.bipush (-2), 2) := by decide +kernel
theorem dX12_room_14 : decode cX12_room 14 = .ok (.ireturn, 1) := by decide +kernel
theorem dX12_room_15 : decode cX12_room 15 = .ok (.aload_n 0, 1) := by decide +kernel
theorem dX12_room_16 : decode cX12_room 16 = .ok (.invokevirtual 334, 3) := by decide +kernel
theorem dX12_room_19 : decode cX12_room 19 = .ok (.aload_n 0, 1) := by decide +kernel
theorem dX12_room_20 : decode cX12_room 20 = .ok (.getfield 303, 3) := by decide +kernel
theorem dX12_room_23 : decode cX12_room 23 = .ok (.ireturn, 1) := by decide +kernel
theorem dX12_held_0 : decode cX12_held 0 = .ok (.aload_n 0, 1) := by decide +kernel
theorem dX12_held_1 : decode cX12_held 1 = .ok (.iconst 0, 1) := by decide +kernel
theorem dX12_held_2 : decode cX12_held 2 = .ok (.putfield 89, 3) := by decide +kernel
theorem dX12_held_5 : decode cX12_held 5 = .ok (.aload_n 0, 1) := by decide +kernel
theorem dX12_held_6 : decode cX12_held 6 = .ok (.invokevirtual 267, 3) := by decide +kernel
theorem dX12_held_9 : decode cX12_held 9 = .ok (.ifCond .ne 6, 3) := by decide +kernel
theorem dX12_held_12 : decode cX12_held 12 = .ok (.bipush (-2), 2) := by decide +kernel
theorem dX12_held_14 : decode cX12_held 14 = .ok (.ireturn, 1) := by decide +kernel
theorem dX12_held_15 : decode cX12_held 15 = .ok (.aload_n 0, 1) := by decide +kernel
theorem dX12_held_16 : decode cX12_held 16 = .ok (.invokevirtual 334, 3) := by decide +kernel
theorem dX12_held_19 : decode cX12_held 19 = .ok (.aload_n 0, 1) := by decide +kernel
theorem dX12_held_20 : decode cX12_held 20 = .ok (.invokevirtual 337, 3) := by decide +kernel
theorem dX12_held_23 : decode cX12_held 23 = .ok (.ireturn, 1) := by decide +kernel
theorem dX12_until_0 : decode cX12_until 0 = .ok (.aload_n 0, 1) := by decide +kernel
theorem dX12_until_1 : decode cX12_until 1 = .ok (.iconst 0, 1) := by decide +kernel
theorem dX12_until_2 : decode cX12_until 2 = .ok (.putfield 89, 3) := by decide +kernel
theorem dX12_until_5 : decode cX12_until 5 = .ok (.aload_n 0, 1) := by decide +kernel
theorem dX12_until_6 : decode cX12_until 6 = .ok (.iload_n 1, 1) := by decide +kernel
theorem dX12_until_7 : decode cX12_until 7 = .ok (.i2l, 1) := by decide +kernel
theorem dX12_until_8 : decode cX12_until 8 = .ok (.invokevirtual 270, 3) := by decide +kernel
theorem dX12_until_11 : decode cX12_until 11 = .ok (.ifCond .ne 6, 3) := by decide +kernel
theorem dX12_until_14 : decode cX12_until 14 = .ok (.bipush (-2), 2) := by decide +kernel
theorem dX12_until_16 : decode cX12_until 16 = .ok (.ireturn, 1) := by decide +kernel
theorem dX12_until_17 : decode cX12_until 17 = .ok (.aload_n 0, 1) := by decide +kernel
theorem dX12_until_18 : decode cX12_until 18 = .ok (.invokevirtual 334, 3) := by decide +kernel
theorem dX12_until_21 : decode cX12_until 21 = .ok (.aload_n 0, 1) := by decide +kernel
theorem dX12_until_22 : decode cX12_until 22 = .ok (.iload_n 1, 1) := by decide +kernel
theorem dX12_until_23 : decode cX12_until 23 = .ok (.aload_n 0, 1) := by decide +kernel
theorem dX12_until_24 : decode cX12_until 24 = .ok (.getfield 300, 3) := by decide +kernel
theorem dX12_until_27 : decode cX12_until 27 = .ok (.invokevirtual 312, 3) := by decide +kernel
theorem dX12_until_30 : decode cX12_until 30 = .ok (.ifCond .eq 24, 3) := by decide +kernel
theorem dX12_until_33 : decode cX12_until 33 = .ok (.aload_n 0, 1) := by decide +kernel
theorem dX12_until_34 : decode cX12_until 34 = .ok (.getfield 59, 3) := by decide +kernel
theorem dX12_until_37 : decode cX12_until 37 = .ok (.iload_n 1, 1) := by decide +kernel
theorem dX12_until_38 : decode cX12_until 38 = .ok (.iaload, 1) := by decide +kernel
theorem dX12_until_39 : decode cX12_until 39 = .ok (.sipush 9999, 3) := by decide +kernel
theorem dX12_until_42 : decode cX12_until 42 = .ok (.if_icmp .eq 12, 3) := by decide +kernel
theorem dX12_until_45 : decode cX12_until 45 = .ok (.aload_n 0, 1) := by decide +kernel
theorem dX12_until_46 : decode cX12_until 46 = .ok (.getfield 59, 3) := by decide +kernel
theorem dX12_until_49 : decode cX12_until 49 = .ok (.iload_n 1, 1) := by decide +kernel
theorem dX12_until_50 : decode cX12_until 50 = .ok (.iaload, 1) := by decide +kernel
theorem dX12_until_51 : decode cX12_until 51 = .ok (.goto 4, 3) := by decide +kernel
theorem dX12_until_54 : decode cX12_until 54 = .ok (.iconst (-1), 1) := by decide +kernel
theorem dX12_until_55 : decode cX12_until 55 = .ok (.ireturn, 1) := by decide +kernel
theorem dX12_when_0 : decode cX12_when 0 = .ok (.aload_n 0, 1) := by decide +kernel
theorem dX12_when_1 : decode cX12_when 1 = .ok (.iconst 0, 1) := by decide +kernel
theorem dX12_when_2 : decode cX12_when 2 = .ok (.putfield 89, 3) := by decide +kernel
theorem dX12_when_5 : decode cX12_when 5 = .ok (.aload_n 0, 1) := by decide +kernel
theorem dX12_when_6 : decode cX12_when 6 = .ok (.iload_n 1, 1) := by decide +kernel
theorem dX12_when_7 : decode cX12_when 7 = .ok (.i2l, 1) := by decide +kernel
theorem dX12_when_8 : decode cX12_when 8 = .ok (.invokevirtual 270, 3) := by decide +kernel
theorem dX12_when_11 : decode cX12_when 11 = .ok (.ifCond .ne 6, 3) := by decide +kernel
theorem dX12_when_14 : decode cX12_when 14 = .ok (.bipush (-2), 2) := by decide +kernel
theorem dX12_when_16 : decode cX12_when 16 = .ok (.ireturn, 1) := by decide +kernel
theorem dX12_when_17 : decode cX12_when 17 = .ok (.aload_n 0, 1) := by decide +kernel
theorem dX12_when_18 : decode cX12_when 18 = .ok (.invokevirtual 334, 3) := by decide +kernel
theorem dX12_when_21 : decode cX12_when 21 = .ok (.aload_n 0, 1) := by decide +kernel
theorem dX12_when_22 : decode cX12_when 22 = .ok (.iload_n 1, 1) := by decide +kernel
theorem dX12_when_23 : decode cX12_when 23 = .ok (.invokevirtual 328, 3) := by decide +kernel
theorem dX12_when_26 : decode cX12_when 26 = .ok (.ireturn, 1) := by decide +kernel
theorem dX12_why_0 : decode cX12_why 0 = .ok (.aload_n 0, 1) := by decide +kernel
theorem dX12_why_1 : decode cX12_why 1 = .ok (.iconst 0, 1) := by decide +kernel
theorem dX12_why_2 : decode cX12_why 2 = .ok (.putfield 89, 3) := by decide +kernel
theorem dX12_why_5 : decode cX12_why 5 = .ok (.aload_n 0, 1) := by decide +kernel
theorem dX12_why_6 : decode cX12_why 6 = .ok (.iload_n 1, 1) := by decide +kernel
theorem dX12_why_7 : decode cX12_why 7 = .ok (.i2l, 1) := by decide +kernel
theorem dX12_why_8 : decode cX12_why 8 = .ok (.invokevirtual 270, 3) := by decide +kernel
theorem dX12_why_11 : decode cX12_why 11 = .ok (.ifCond .ne 6, 3) := by decide +kernel
theorem dX12_why_14 : decode cX12_why 14 = .ok (.bipush (-2), 2) := by decide +kernel
theorem dX12_why_16 : decode cX12_why 16 = .ok (.ireturn, 1) := by decide +kernel
theorem dX12_why_17 : decode cX12_why 17 = .ok (.aload_n 0, 1) := by decide +kernel
theorem dX12_why_18 : decode cX12_why 18 = .ok (.invokevirtual 334, 3) := by decide +kernel
theorem dX12_why_21 : decode cX12_why 21 = .ok (.aload_n 0, 1) := by decide +kernel
theorem dX12_why_22 : decode cX12_why 22 = .ok (.iload_n 1, 1) := by decide +kernel
theorem dX12_why_23 : decode cX12_why 23 = .ok (.aload_n 0, 1) := by decide +kernel
theorem dX12_why_24 : decode cX12_why 24 = .ok (.getfield 300, 3) := by decide +kernel
theorem dX12_why_27 : decode cX12_why 27 = .ok (.invokevirtual 312, 3) := by decide +kernel
theorem dX12_why_30 : decode cX12_why 30 = .ok (.ifCond .eq 5, 3) := by decide +kernel
theorem dX12_why_33 : decode cX12_why 33 = .ok (.iconst 1, 1) := by decide +kernel
theorem dX12_why_34 : decode cX12_why 34 = .ok (.ireturn, 1) := by decide +kernel
theorem dX12_why_35 : decode cX12_why 35 = .ok (.aload_n 0, 1) := by decide +kernel
theorem dX12_why_36 : decode cX12_why 36 = .ok (.getfield 56, 3) := by decide +kernel
theorem dX12_why_39 : decode cX12_why 39 = .ok (.bipush 6, 2) := by decide +kernel
theorem dX12_why_41 : decode cX12_why 41 = .ok (.aload_n 0, 1) := by decide +kernel
theorem dX12_why_42 : decode cX12_why 42 = .ok (.getfield 303, 3) := by decide +kernel
theorem dX12_why_45 : decode cX12_why 45 = .ok (.imul, 1) := by decide +kernel
theorem dX12_why_46 : decode cX12_why 46 = .ok (.aload_n 0, 1) := by decide +kernel
theorem dX12_why_47 : decode cX12_why 47 = .ok (.iload_n 1, 1) := by decide +kernel
theorem dX12_why_48 : decode cX12_why 48 = .ok (.iconst 0, 1) := by decide +kernel
theorem dX12_why_49 : decode cX12_why 49 = .ok (.invokevirtual 275, 3) := by decide +kernel
theorem dX12_why_52 : decode cX12_why 52 = .ok (.iadd, 1) := by decide +kernel
theorem dX12_why_53 : decode cX12_why 53 = .ok (.iaload, 1) := by decide +kernel
theorem dX12_why_54 : decode cX12_why 54 = .ok (.istore_n 2, 1) := by decide +kernel
theorem dX12_why_55 : decode cX12_why 55 = .ok (.iload_n 2, 1) := by decide +kernel
theorem dX12_why_56 : decode cX12_why 56 = .ok (.ldc 139, 2) := by decide +kernel
theorem dX12_why_58 : decode cX12_why 58 = .ok (.if_icmp .lt 5, 3) := by decide +kernel
theorem dX12_why_61 : decode cX12_why 61 = .ok (.iconst 2, 1) := by decide +kernel
theorem dX12_why_62 : decode cX12_why 62 = .ok (.ireturn, 1) := by decide +kernel
theorem dX12_why_63 : decode cX12_why 63 = .ok (.iconst 0, 1) := by decide +kernel
theorem dX12_why_64 : decode cX12_why 64 = .ok (.istore_n 3, 1) := by decide +kernel
theorem dX12_why_65 : decode cX12_why 65 = .ok (.iconst 0, 1) := by decide +kernel
theorem dX12_why_66 : decode cX12_why 66 = .ok (.istore 4, 2) := by decide +kernel
theorem dX12_why_68 : decode cX12_why 68 = .ok (.iconst 0, 1) := by decide +kernel
theorem dX12_why_69 : decode cX12_why 69 = .ok (.istore 5, 2) := by decide +kernel
theorem dX12_why_71 : decode cX12_why 71 = .ok (.aload_n 0, 1) := by decide +kernel
theorem dX12_why_72 : decode cX12_why 72 = .ok (.getfield 300, 3) := by decide +kernel
theorem dX12_why_75 : decode cX12_why 75 = .ok (.iload_n 2, 1) := by decide +kernel
theorem dX12_why_76 : decode cX12_why 76 = .ok (.iadd, 1) := by decide +kernel
theorem dX12_why_77 : decode cX12_why 77 = .ok (.istore 6, 2) := by decide +kernel
theorem dX12_why_79 : decode cX12_why 79 = .ok (.iload 6, 2) := by decide +kernel
theorem dX12_why_81 : decode cX12_why 81 = .ok (.sipush 400, 3) := by decide +kernel
theorem dX12_why_84 : decode cX12_why 84 = .ok (.if_icmp .ge 76, 3) := by decide +kernel
theorem dX12_why_87 : decode cX12_why 87 = .ok (.aload_n 0, 1) := by decide +kernel
theorem dX12_why_88 : decode cX12_why 88 = .ok (.iload_n 1, 1) := by decide +kernel
theorem dX12_why_89 : decode cX12_why 89 = .ok (.iload 6, 2) := by decide +kernel
theorem dX12_why_91 : decode cX12_why 91 = .ok (.invokevirtual 291, 3) := by decide +kernel
theorem dX12_why_94 : decode cX12_why 94 = .ok (.ifCond .ne 6, 3) := by decide +kernel
theorem dX12_why_97 : decode cX12_why 97 = .ok (.goto 57, 3) := by decide +kernel
theorem dX12_why_100 : decode cX12_why 100 = .ok (.aload_n 0, 1) := by decide +kernel
theorem dX12_why_101 : decode cX12_why 101 = .ok (.iload 6, 2) := by decide +kernel
theorem dX12_why_103 : decode cX12_why 103 = .ok (.invokevirtual 315, 3) := by decide +kernel
theorem dX12_why_106 : decode cX12_why 106 = .ok (.istore 7, 2) := by decide +kernel
theorem dX12_why_108 : decode cX12_why 108 = .ok (.iconst 1, 1) := by decide +kernel
theorem dX12_why_109 : decode cX12_why 109 = .ok (.istore_n 3, 1) := by decide +kernel
theorem dX12_why_110 : decode cX12_why 110 = .ok (.aload_n 0, 1) := by decide +kernel
theorem dX12_why_111 : decode cX12_why 111 = .ok (.getfield 40, 3) := by decide +kernel
theorem dX12_why_114 : decode cX12_why 114 = .ok (.iload_n 1, 1) := by decide +kernel
theorem dX12_why_115 : decode cX12_why 115 = .ok (.iaload, 1) := by decide +kernel
theorem dX12_why_116 : decode cX12_why 116 = .ok (.iload 7, 2) := by decide +kernel
theorem dX12_why_118 : decode cX12_why 118 = .ok (.iconst (-1), 1) := by decide +kernel
theorem dX12_why_119 : decode cX12_why 119 = .ok (.ixor, 1) := by decide +kernel
theorem dX12_why_120 : decode cX12_why 120 = .ok (.iand, 1) := by decide +kernel
theorem dX12_why_121 : decode cX12_why 121 = .ok (.ifCond .eq 6, 3) := by decide +kernel
theorem dX12_why_124 : decode cX12_why 124 = .ok (.goto 30, 3) := by decide +kernel
theorem dX12_why_127 : decode cX12_why 127 = .ok (.iconst 1, 1) := by decide +kernel
theorem dX12_why_128 : decode cX12_why 128 = .ok (.istore 4, 2) := by decide +kernel
theorem dX12_why_130 : decode cX12_why 130 = .ok (.iload 5, 2) := by decide +kernel
theorem dX12_why_132 : decode cX12_why 132 = .ok (.ifCond .ne 15, 3) := by decide +kernel
theorem dX12_why_135 : decode cX12_why 135 = .ok (.aload_n 0, 1) := by decide +kernel
theorem dX12_why_136 : decode cX12_why 136 = .ok (.getfield 43, 3) := by decide +kernel
theorem dX12_why_139 : decode cX12_why 139 = .ok (.iload_n 1, 1) := by decide +kernel
theorem dX12_why_140 : decode cX12_why 140 = .ok (.iaload, 1) := by decide +kernel
theorem dX12_why_141 : decode cX12_why 141 = .ok (.iload 7, 2) := by decide +kernel
theorem dX12_why_143 : decode cX12_why 143 = .ok (.iand, 1) := by decide +kernel
theorem dX12_why_144 : decode cX12_why 144 = .ok (.ifCond .ne 7, 3) := by decide +kernel
theorem dX12_why_147 : decode cX12_why 147 = .ok (.iconst 1, 1) := by decide +kernel
theorem dX12_why_148 : decode cX12_why 148 = .ok (.goto 4, 3) := by decide +kernel
theorem dX12_why_151 : decode cX12_why 151 = .ok (.iconst 0, 1) := by decide +kernel
theorem dX12_why_152 : decode cX12_why 152 = .ok (.istore 5, 2) := by decide +kernel
theorem dX12_why_154 : decode cX12_why 154 = .ok (.iinc 6 1, 3) := by decide +kernel
theorem dX12_why_157 : decode cX12_why 157 = .ok (.goto (-78), 3) := by decide +kernel
theorem dX12_why_160 : decode cX12_why 160 = .ok (.iload_n 3, 1) := by decide +kernel
theorem dX12_why_161 : decode cX12_why 161 = .ok (.ifCond .ne 7, 3) := by decide +kernel
theorem dX12_why_164 : decode cX12_why 164 = .ok (.iconst 3, 1) := by decide +kernel
theorem dX12_why_165 : decode cX12_why 165 = .ok (.goto 22, 3) := by decide +kernel
theorem dX12_why_168 : decode cX12_why 168 = .ok (.iload 4, 2) := by decide +kernel
theorem dX12_why_170 : decode cX12_why 170 = .ok (.ifCond .ne 7, 3) := by decide +kernel
theorem dX12_why_173 : decode cX12_why 173 = .ok (.iconst 4, 1) := by decide +kernel
theorem dX12_why_174 : decode cX12_why 174 = .ok (.goto 13, 3) := by decide +kernel
theorem dX12_why_177 : decode cX12_why 177 = .ok (.iload 5, 2) := by decide +kernel
theorem dX12_why_179 : decode cX12_why 179 = .ok (.ifCond .eq 7, 3) := by decide +kernel
theorem dX12_why_182 : decode cX12_why 182 = .ok (.iconst 0, 1) := by decide +kernel
theorem dX12_why_183 : decode cX12_why 183 = .ok (.goto 4, 3) := by decide +kernel
theorem dX12_why_186 : decode cX12_why 186 = .ok (.iconst 5, 1) := by decide +kernel
theorem dX12_why_187 : decode cX12_why 187 = .ok (.ireturn, 1) := by decide +kernel
theorem dX12_canNow_0 : decode cX12_canNow 0 = .ok (.iconst 0, 1) := by decide +kernel
theorem dX12_canNow_1 : decode cX12_canNow 1 = .ok (.istore_n 1, 1) := by decide +kernel
theorem dX12_canNow_2 : decode cX12_canNow 2 = .ok (.iconst 0, 1) := by decide +kernel
theorem dX12_canNow_3 : decode cX12_canNow 3 = .ok (.istore_n 2, 1) := by decide +kernel
theorem dX12_canNow_4 : decode cX12_canNow 4 = .ok (.iload_n 2, 1) := by decide +kernel
theorem dX12_canNow_5 : decode cX12_canNow 5 = .ok (.aload_n 0, 1) := by decide +kernel
theorem dX12_canNow_6 : decode cX12_canNow 6 = .ok (.getfield 34, 3) := by decide +kernel
theorem dX12_canNow_9 : decode cX12_canNow 9 = .ok (.iconst 3, 1) := by decide +kernel
theorem dX12_canNow_10 : decode cX12_canNow 10 = .ok (.iaload, 1) := by decide +kernel
theorem dX12_canNow_11 : decode cX12_canNow 11 = .ok (.if_icmp .ge 28, 3) := by decide +kernel
theorem dX12_canNow_14 : decode cX12_canNow 14 = .ok (.iload_n 1, 1) := by decide +kernel
theorem dX12_canNow_15 : decode cX12_canNow 15 = .ok (.aload_n 0, 1) := by decide +kernel
theorem dX12_canNow_16 : decode cX12_canNow 16 = .ok (.iload_n 2, 1) := by decide +kernel
theorem dX12_canNow_17 : decode cX12_canNow 17 = .ok (.invokevirtual 328, 3) := by decide +kernel
theorem dX12_canNow_20 : decode cX12_canNow 20 = .ok (.iconst (-1), 1) := by decide +kernel
theorem dX12_canNow_21 : decode cX12_canNow 21 = .ok (.if_icmp .eq 9, 3) := by decide +kernel
theorem dX12_canNow_24 : decode cX12_canNow 24 = .ok (.iconst 1, 1) := by decide +kernel
theorem dX12_canNow_25 : decode cX12_canNow 25 = .ok (.iload_n 2, 1) := by decide +kernel
theorem dX12_canNow_26 : decode cX12_canNow 26 = .ok (.ishl, 1) := by decide +kernel
theorem dX12_canNow_27 : decode cX12_canNow 27 = .ok (.goto 4, 3) := by decide +kernel
theorem dX12_canNow_30 : decode cX12_canNow 30 = .ok (.iconst 0, 1) := by decide +kernel
theorem dX12_canNow_31 : decode cX12_canNow 31 = .ok (.ior, 1) := by decide +kernel
theorem dX12_canNow_32 : decode cX12_canNow 32 = .ok (.istore_n 1, 1) := by decide +kernel
theorem dX12_canNow_33 : decode cX12_canNow 33 = .ok (.iinc 2 1, 3) := by decide +kernel
theorem dX12_canNow_36 : decode cX12_canNow 36 = .ok (.goto (-32), 3) := by decide +kernel
theorem dX12_canNow_39 : decode cX12_canNow 39 = .ok (.iload_n 1, 1) := by decide +kernel
theorem dX12_canNow_40 : decode cX12_canNow 40 = .ok (.ireturn, 1) := by decide +kernel
theorem dX12_can_0 : decode cX12_can 0 = .ok (.aload_n 0, 1) := by decide +kernel
theorem dX12_can_1 : decode cX12_can 1 = .ok (.iconst 0, 1) := by decide +kernel
theorem dX12_can_2 : decode cX12_can 2 = .ok (.putfield 89, 3) := by decide +kernel
theorem dX12_can_5 : decode cX12_can 5 = .ok (.aload_n 0, 1) := by decide +kernel
theorem dX12_can_6 : decode cX12_can 6 = .ok (.invokevirtual 267, 3) := by decide +kernel
theorem dX12_can_9 : decode cX12_can 9 = .ok (.ifCond .ne 6, 3) := by decide +kernel
theorem dX12_can_12 : decode cX12_can 12 = .ok (.bipush (-2), 2) := by decide +kernel
theorem dX12_can_14 : decode cX12_can 14 = .ok (.ireturn, 1) := by decide +kernel
theorem dX12_can_15 : decode cX12_can 15 = .ok (.aload_n 0, 1) := by decide +kernel
theorem dX12_can_16 : decode cX12_can 16 = .ok (.invokevirtual 334, 3) := by decide +kernel
theorem dX12_can_19 : decode cX12_can 19 = .ok (.aload_n 0, 1) := by decide +kernel
theorem dX12_can_20 : decode cX12_can 20 = .ok (.invokevirtual 340, 3) := by decide +kernel
theorem dX12_can_23 : decode cX12_can 23 = .ok (.ireturn, 1) := by decide +kernel
theorem dX12_go_0 : decode cX12_go 0 = .ok (.aload_n 0, 1) := by decide +kernel
theorem dX12_go_1 : decode cX12_go 1 = .ok (.iconst 0, 1) := by decide +kernel
theorem dX12_go_2 : decode cX12_go 2 = .ok (.putfield 89, 3) := by decide +kernel
theorem dX12_go_5 : decode cX12_go 5 = .ok (.aload_n 0, 1) := by decide +kernel
theorem dX12_go_6 : decode cX12_go 6 = .ok (.iload_n 1, 1) := by decide +kernel
theorem dX12_go_7 : decode cX12_go 7 = .ok (.i2l, 1) := by decide +kernel
theorem dX12_go_8 : decode cX12_go 8 = .ok (.invokevirtual 270, 3) := by decide +kernel
theorem dX12_go_11 : decode cX12_go 11 = .ok (.ifCond .ne 6, 3) := by decide +kernel
theorem dX12_go_14 : decode cX12_go 14 = .ok (.bipush (-2), 2) := by decide +kernel
theorem dX12_go_16 : decode cX12_go 16 = .ok (.ireturn, 1) := by decide +kernel
theorem dX12_go_17 : decode cX12_go 17 = .ok (.aload_n 0, 1) := by decide +kernel
theorem dX12_go_18 : decode cX12_go 18 = .ok (.invokevirtual 334, 3) := by decide +kernel
theorem dX12_go_21 : decode cX12_go 21 = .ok (.aload_n 0, 1) := by decide +kernel
theorem dX12_go_22 : decode cX12_go 22 = .ok (.iload_n 1, 1) := by decide +kernel
theorem dX12_go_23 : decode cX12_go 23 = .ok (.invokevirtual 328, 3) := by decide +kernel
theorem dX12_go_26 : decode cX12_go 26 = .ok (.istore_n 2, 1) := by decide +kernel
theorem dX12_go_27 : decode cX12_go 27 = .ok (.iload_n 2, 1) := by decide +kernel
theorem dX12_go_28 : decode cX12_go 28 = .ok (.iconst (-1), 1) := by decide +kernel
theorem dX12_go_29 : decode cX12_go 29 = .ok (.if_icmp .eq 14, 3) := by decide +kernel
theorem dX12_go_32 : decode cX12_go 32 = .ok (.aload_n 0, 1) := by decide +kernel
theorem dX12_go_33 : decode cX12_go 33 = .ok (.getfield 34, 3) := by decide +kernel
theorem dX12_go_36 : decode cX12_go 36 = .ok (.iconst 5, 1) := by decide +kernel
theorem dX12_go_37 : decode cX12_go 37 = .ok (.iaload, 1) := by decide +kernel
theorem dX12_go_38 : decode cX12_go 38 = .ok (.bipush 40, 2) := by decide +kernel
theorem dX12_go_40 : decode cX12_go 40 = .ok (.if_icmp .ne 6, 3) := by decide +kernel
theorem dX12_go_43 : decode cX12_go 43 = .ok (.bipush (-5), 2) := by decide +kernel
theorem dX12_go_45 : decode cX12_go 45 = .ok (.ireturn, 1) := by decide +kernel
theorem dX12_go_46 : decode cX12_go 46 = .ok (.aload_n 0, 1) := by decide +kernel
theorem dX12_go_47 : decode cX12_go 47 = .ok (.getfield 49, 3) := by decide +kernel
theorem dX12_go_50 : decode cX12_go 50 = .ok (.aload_n 0, 1) := by decide +kernel
theorem dX12_go_51 : decode cX12_go 51 = .ok (.getfield 34, 3) := by decide +kernel
theorem dX12_go_54 : decode cX12_go 54 = .ok (.iconst 5, 1) := by decide +kernel
theorem dX12_go_55 : decode cX12_go 55 = .ok (.iaload, 1) := by decide +kernel
theorem dX12_go_56 : decode cX12_go 56 = .ok (.iload_n 1, 1) := by decide +kernel
theorem dX12_go_57 : decode cX12_go 57 = .ok (.iastore, 1) := by decide +kernel
theorem dX12_go_58 : decode cX12_go 58 = .ok (.aload_n 0, 1) := by decide +kernel
theorem dX12_go_59 : decode cX12_go 59 = .ok (.getfield 34, 3) := by decide +kernel
theorem dX12_go_62 : decode cX12_go 62 = .ok (.iconst 5, 1) := by decide +kernel
theorem dX12_go_63 : decode cX12_go 63 = .ok (.dup2, 1) := by decide +kernel
theorem dX12_go_64 : decode cX12_go 64 = .ok (.iaload, 1) := by decide +kernel
theorem dX12_go_65 : decode cX12_go 65 = .ok (.iconst 1, 1) := by decide +kernel
theorem dX12_go_66 : decode cX12_go 66 = .ok (.iadd, 1) := by decide +kernel
theorem dX12_go_67 : decode cX12_go 67 = .ok (.iastore, 1) := by decide +kernel
theorem dX12_go_68 : decode cX12_go 68 = .ok (.iload_n 2, 1) := by decide +kernel
theorem dX12_go_69 : decode cX12_go 69 = .ok (.ireturn, 1) := by decide +kernel
theorem dX12_waits_0 : decode cX12_waits 0 = .ok (.aload_n 0, 1) := by decide +kernel
theorem dX12_waits_1 : decode cX12_waits 1 = .ok (.iconst 0, 1) := by decide +kernel
theorem dX12_waits_2 : decode cX12_waits 2 = .ok (.putfield 89, 3) := by decide +kernel
theorem dX12_waits_5 : decode cX12_waits 5 = .ok (.aload_n 0, 1) := by decide +kernel
theorem dX12_waits_6 : decode cX12_waits 6 = .ok (.invokevirtual 267, 3) := by decide +kernel
theorem dX12_waits_9 : decode cX12_waits 9 = .ok (.ifCond .eq 15, 3) := by decide +kernel
theorem dX12_waits_12 : decode cX12_waits 12 = .ok (.iload_n 1, 1) := by decide +kernel
theorem dX12_waits_13 : decode cX12_waits 13 = .ok (.i2l, 1) := by decide +kernel
theorem dX12_waits_14 : decode cX12_waits 14 = .ok (.lconst 1, 1) := by decide +kernel
theorem dX12_waits_15 : decode cX12_waits 15 = .ok (.ldc2_w 343, 3) := by decide +kernel
theorem dX12_waits_18 : decode cX12_waits 18 = .ok (.invokestatic 94, 3) := by decide +kernel
theorem dX12_waits_21 : decode cX12_waits 21 = .ok (.ifCond .ne 6, 3) := by decide +kernel
theorem dX12_waits_24 : decode cX12_waits 24 = .ok (.bipush (-2), 2) := by decide +kernel
theorem dX12_waits_26 : decode cX12_waits 26 = .ok (.ireturn, 1) := by decide +kernel
theorem dX12_waits_27 : decode cX12_waits 27 = .ok (.aload_n 0, 1) := by decide +kernel
theorem dX12_waits_28 : decode cX12_waits 28 = .ok (.invokevirtual 334, 3) := by decide +kernel
theorem dX12_waits_31 : decode cX12_waits 31 = .ok (.aload_n 0, 1) := by decide +kernel
theorem dX12_waits_32 : decode cX12_waits 32 = .ok (.getfield 300, 3) := by decide +kernel
theorem dX12_waits_35 : decode cX12_waits 35 = .ok (.iload_n 1, 1) := by decide +kernel
theorem dX12_waits_36 : decode cX12_waits 36 = .ok (.iadd, 1) := by decide +kernel
theorem dX12_waits_37 : decode cX12_waits 37 = .ok (.sipush 400, 3) := by decide +kernel
theorem dX12_waits_40 : decode cX12_waits 40 = .ok (.if_icmp .gt 14, 3) := by decide +kernel
theorem dX12_waits_43 : decode cX12_waits 43 = .ok (.aload_n 0, 1) := by decide +kernel
theorem dX12_waits_44 : decode cX12_waits 44 = .ok (.getfield 34, 3) := by decide +kernel
theorem dX12_waits_47 : decode cX12_waits 47 = .ok (.iconst 5, 1) := by decide +kernel
theorem dX12_waits_48 : decode cX12_waits 48 = .ok (.iaload, 1) := by decide +kernel
theorem dX12_waits_49 : decode cX12_waits 49 = .ok (.bipush 40, 2) := by decide +kernel
theorem dX12_waits_51 : decode cX12_waits 51 = .ok (.if_icmp .ne 6, 3) := by decide +kernel
theorem dX12_waits_54 : decode cX12_waits 54 = .ok (.bipush (-5), 2) := by decide +kernel
theorem dX12_waits_56 : decode cX12_waits 56 = .ok (.ireturn, 1) := by decide +kernel
theorem dX12_waits_57 : decode cX12_waits 57 = .ok (.aload_n 0, 1) := by decide +kernel
theorem dX12_waits_58 : decode cX12_waits 58 = .ok (.getfield 49, 3) := by decide +kernel
theorem dX12_waits_61 : decode cX12_waits 61 = .ok (.aload_n 0, 1) := by decide +kernel
theorem dX12_waits_62 : decode cX12_waits 62 = .ok (.getfield 34, 3) := by decide +kernel
theorem dX12_waits_65 : decode cX12_waits 65 = .ok (.iconst 5, 1) := by decide +kernel
theorem dX12_waits_66 : decode cX12_waits 66 = .ok (.iaload, 1) := by decide +kernel
theorem dX12_waits_67 : decode cX12_waits 67 = .ok (.bipush 10, 2) := by decide +kernel
theorem dX12_waits_69 : decode cX12_waits 69 = .ok (.iload_n 1, 1) := by decide +kernel
theorem dX12_waits_70 : decode cX12_waits 70 = .ok (.iadd, 1) := by decide +kernel
theorem dX12_waits_71 : decode cX12_waits 71 = .ok (.iastore, 1) := by decide +kernel
theorem dX12_waits_72 : decode cX12_waits 72 = .ok (.aload_n 0, 1) := by decide +kernel
theorem dX12_waits_73 : decode cX12_waits 73 = .ok (.getfield 34, 3) := by decide +kernel
theorem dX12_waits_76 : decode cX12_waits 76 = .ok (.iconst 5, 1) := by decide +kernel
theorem dX12_waits_77 : decode cX12_waits 77 = .ok (.dup2, 1) := by decide +kernel
theorem dX12_waits_78 : decode cX12_waits 78 = .ok (.iaload, 1) := by decide +kernel
theorem dX12_waits_79 : decode cX12_waits 79 = .ok (.iconst 1, 1) := by decide +kernel
theorem dX12_waits_80 : decode cX12_waits 80 = .ok (.iadd, 1) := by decide +kernel
theorem dX12_waits_81 : decode cX12_waits 81 = .ok (.iastore, 1) := by decide +kernel
theorem dX12_waits_82 : decode cX12_waits 82 = .ok (.aload_n 0, 1) := by decide +kernel
theorem dX12_waits_83 : decode cX12_waits 83 = .ok (.getfield 300, 3) := by decide +kernel
theorem dX12_waits_86 : decode cX12_waits 86 = .ok (.iload_n 1, 1) := by decide +kernel
theorem dX12_waits_87 : decode cX12_waits 87 = .ok (.iadd, 1) := by decide +kernel
theorem dX12_waits_88 : decode cX12_waits 88 = .ok (.ireturn, 1) := by decide +kernel
theorem dX12_undo_0 : decode cX12_undo 0 = .ok (.aload_n 0, 1) := by decide +kernel
theorem dX12_undo_1 : decode cX12_undo 1 = .ok (.iconst 0, 1) := by decide +kernel
theorem dX12_undo_2 : decode cX12_undo 2 = .ok (.putfield 89, 3) := by decide +kernel
theorem dX12_undo_5 : decode cX12_undo 5 = .ok (.aload_n 0, 1) := by decide +kernel
theorem dX12_undo_6 : decode cX12_undo 6 = .ok (.invokevirtual 267, 3) := by decide +kernel
theorem dX12_undo_9 : decode cX12_undo 9 = .ok (.ifCond .ne 6, 3) := by decide +kernel
theorem dX12_undo_12 : decode cX12_undo 12 = .ok (.bipush (-2), 2) := by decide +kernel
theorem dX12_undo_14 : decode cX12_undo 14 = .ok (.ireturn, 1) := by decide +kernel
theorem dX12_undo_15 : decode cX12_undo 15 = .ok (.aload_n 0, 1) := by decide +kernel
theorem dX12_undo_16 : decode cX12_undo 16 = .ok (.getfield 34, 3) := by decide +kernel
theorem dX12_undo_19 : decode cX12_undo 19 = .ok (.iconst 5, 1) := by decide +kernel
theorem dX12_undo_20 : decode cX12_undo 20 = .ok (.iaload, 1) := by decide +kernel
theorem dX12_undo_21 : decode cX12_undo 21 = .ok (.ifCond .ne 6, 3) := by decide +kernel
theorem dX12_undo_24 : decode cX12_undo 24 = .ok (.bipush (-5), 2) := by decide +kernel
theorem dX12_undo_26 : decode cX12_undo 26 = .ok (.ireturn, 1) := by decide +kernel
theorem dX12_undo_27 : decode cX12_undo 27 = .ok (.aload_n 0, 1) := by decide +kernel
theorem dX12_undo_28 : decode cX12_undo 28 = .ok (.getfield 34, 3) := by decide +kernel
theorem dX12_undo_31 : decode cX12_undo 31 = .ok (.iconst 5, 1) := by decide +kernel
theorem dX12_undo_32 : decode cX12_undo 32 = .ok (.dup2, 1) := by decide +kernel
theorem dX12_undo_33 : decode cX12_undo 33 = .ok (.iaload, 1) := by decide +kernel
theorem dX12_undo_34 : decode cX12_undo 34 = .ok (.iconst 1, 1) := by decide +kernel
theorem dX12_undo_35 : decode cX12_undo 35 = .ok (.isub, 1) := by decide +kernel
theorem dX12_undo_36 : decode cX12_undo 36 = .ok (.iastore, 1) := by decide +kernel
theorem dX12_undo_37 : decode cX12_undo 37 = .ok (.aload_n 0, 1) := by decide +kernel
theorem dX12_undo_38 : decode cX12_undo 38 = .ok (.getfield 34, 3) := by decide +kernel
theorem dX12_undo_41 : decode cX12_undo 41 = .ok (.iconst 5, 1) := by decide +kernel
theorem dX12_undo_42 : decode cX12_undo 42 = .ok (.iaload, 1) := by decide +kernel
theorem dX12_undo_43 : decode cX12_undo 43 = .ok (.ireturn, 1) := by decide +kernel
theorem dX12_anew_0 : decode cX12_anew 0 = .ok (.aload_n 0, 1) := by decide +kernel
theorem dX12_anew_1 : decode cX12_anew 1 = .ok (.iconst 0, 1) := by decide +kernel
theorem dX12_anew_2 : decode cX12_anew 2 = .ok (.putfield 89, 3) := by decide +kernel
theorem dX12_anew_5 : decode cX12_anew 5 = .ok (.aload_n 0, 1) := by decide +kernel
theorem dX12_anew_6 : decode cX12_anew 6 = .ok (.invokevirtual 267, 3) := by decide +kernel
theorem dX12_anew_9 : decode cX12_anew 9 = .ok (.ifCond .ne 6, 3) := by decide +kernel
theorem dX12_anew_12 : decode cX12_anew 12 = .ok (.bipush (-2), 2) := by decide +kernel
theorem dX12_anew_14 : decode cX12_anew 14 = .ok (.ireturn, 1) := by decide +kernel
theorem dX12_anew_15 : decode cX12_anew 15 = .ok (.aload_n 0, 1) := by decide +kernel
theorem dX12_anew_16 : decode cX12_anew 16 = .ok (.getfield 34, 3) := by decide +kernel
theorem dX12_anew_19 : decode cX12_anew 19 = .ok (.iconst 5, 1) := by decide +kernel
theorem dX12_anew_20 : decode cX12_anew 20 = .ok (.iaload, 1) := by decide +kernel
theorem dX12_anew_21 : decode cX12_anew 21 = .ok (.istore_n 1, 1) := by decide +kernel
theorem dX12_anew_22 : decode cX12_anew 22 = .ok (.aload_n 0, 1) := by decide +kernel
theorem dX12_anew_23 : decode cX12_anew 23 = .ok (.getfield 34, 3) := by decide +kernel
theorem dX12_anew_26 : decode cX12_anew 26 = .ok (.iconst 5, 1) := by decide +kernel
theorem dX12_anew_27 : decode cX12_anew 27 = .ok (.iconst 0, 1) := by decide +kernel
theorem dX12_anew_28 : decode cX12_anew 28 = .ok (.iastore, 1) := by decide +kernel
theorem dX12_anew_29 : decode cX12_anew 29 = .ok (.iload_n 1, 1) := by decide +kernel
theorem dX12_anew_30 : decode cX12_anew 30 = .ok (.ireturn, 1) := by decide +kernel
theorem dX12_led_0 : decode cX12_led 0 = .ok (.aload_n 0, 1) := by decide +kernel
theorem dX12_led_1 : decode cX12_led 1 = .ok (.iconst 0, 1) := by decide +kernel
theorem dX12_led_2 : decode cX12_led 2 = .ok (.putfield 89, 3) := by decide +kernel
theorem dX12_led_5 : decode cX12_led 5 = .ok (.aload_n 0, 1) := by decide +kernel
theorem dX12_led_6 : decode cX12_led 6 = .ok (.invokevirtual 267, 3) := by decide +kernel
theorem dX12_led_9 : decode cX12_led 9 = .ok (.ifCond .ne 8, 3) := by decide +kernel
theorem dX12_led_12 : decode cX12_led 12 = .ok (.bipush (-2), 2) := by decide +kernel
theorem dX12_led_14 : decode cX12_led 14 = .ok (.goto 31, 3) := by decide +kernel
theorem dX12_led_17 : decode cX12_led 17 = .ok (.iload_n 1, 1) := by decide +kernel
theorem dX12_led_18 : decode cX12_led 18 = .ok (.i2l, 1) := by decide +kernel
theorem dX12_led_19 : decode cX12_led 19 = .ok (.lconst 0, 1) := by decide +kernel
theorem dX12_led_20 : decode cX12_led 20 = .ok (.aload_n 0, 1) := by decide +kernel
theorem dX12_led_21 : decode cX12_led 21 = .ok (.getfield 34, 3) := by decide +kernel
theorem dX12_led_24 : decode cX12_led 24 = .ok (.iconst 5, 1) := by decide +kernel
theorem dX12_led_25 : decode cX12_led 25 = .ok (.iaload, 1) := by decide +kernel
theorem dX12_led_26 : decode cX12_led 26 = .ok (.iconst 1, 1) := by decide +kernel
theorem dX12_led_27 : decode cX12_led 27 = .ok (.isub, 1) := by decide +kernel
theorem dX12_led_28 : decode cX12_led 28 = .ok (.i2l, 1) := by decide +kernel
theorem dX12_led_29 : decode cX12_led 29 = .ok (.invokestatic 94, 3) := by decide +kernel
theorem dX12_led_32 : decode cX12_led 32 = .ok (.ifCond .eq 12, 3) := by decide +kernel
theorem dX12_led_35 : decode cX12_led 35 = .ok (.aload_n 0, 1) := by decide +kernel
theorem dX12_led_36 : decode cX12_led 36 = .ok (.getfield 49, 3) := by decide +kernel
theorem dX12_led_39 : decode cX12_led 39 = .ok (.iload_n 1, 1) := by decide +kernel
theorem dX12_led_40 : decode cX12_led 40 = .ok (.iaload, 1) := by decide +kernel
theorem dX12_led_41 : decode cX12_led 41 = .ok (.goto 4, 3) := by decide +kernel
theorem dX12_led_44 : decode cX12_led 44 = .ok (.iconst (-1), 1) := by decide +kernel
theorem dX12_led_45 : decode cX12_led 45 = .ok (.ireturn, 1) := by decide +kernel
theorem dX12_shoes_0 : decode cX12_shoes 0 = .ok (.aload_n 0, 1) := by decide +kernel
theorem dX12_shoes_1 : decode cX12_shoes 1 = .ok (.iconst 0, 1) := by decide +kernel
theorem dX12_shoes_2 : decode cX12_shoes 2 = .ok (.putfield 89, 3) := by decide +kernel
theorem dX12_shoes_5 : decode cX12_shoes 5 = .ok (.aload_n 0, 1) := by decide +kernel
theorem dX12_shoes_6 : decode cX12_shoes 6 = .ok (.invokevirtual 267, 3) := by decide +kernel
theorem dX12_shoes_9 : decode cX12_shoes 9 = .ok (.ifCond .ne 6, 3) := by decide +kernel
theorem dX12_shoes_12 : decode cX12_shoes 12 = .ok (.bipush (-2), 2) := by decide +kernel
theorem dX12_shoes_14 : decode cX12_shoes 14 = .ok (.ireturn, 1) := by decide +kernel
theorem dX12_shoes_15 : decode cX12_shoes 15 = .ok (.aload_n 0, 1) := by decide +kernel
theorem dX12_shoes_16 : decode cX12_shoes 16 = .ok (.invokevirtual 334, 3) := by decide +kernel
theorem dX12_shoes_19 : decode cX12_shoes 19 = .ok (.aload_n 0, 1) := by decide +kernel
theorem dX12_shoes_20 : decode cX12_shoes 20 = .ok (.getfield 306, 3) := by decide +kernel
theorem dX12_shoes_23 : decode cX12_shoes 23 = .ok (.ireturn, 1) := by decide +kernel
theorem dX12_paid_0 : decode cX12_paid 0 = .ok (.aload_n 0, 1) := by decide +kernel
theorem dX12_paid_1 : decode cX12_paid 1 = .ok (.iconst 0, 1) := by decide +kernel
theorem dX12_paid_2 : decode cX12_paid 2 = .ok (.putfield 89, 3) := by decide +kernel
theorem dX12_paid_5 : decode cX12_paid 5 = .ok (.aload_n 0, 1) := by decide +kernel
theorem dX12_paid_6 : decode cX12_paid 6 = .ok (.invokevirtual 267, 3) := by decide +kernel
theorem dX12_paid_9 : decode cX12_paid 9 = .ok (.ifCond .ne 6, 3) := by decide +kernel
theorem dX12_paid_12 : decode cX12_paid 12 = .ok (.bipush (-2), 2) := by decide +kernel
theorem dX12_paid_14 : decode cX12_paid 14 = .ok (.ireturn, 1) := by decide +kernel
theorem dX12_paid_15 : decode cX12_paid 15 = .ok (.aload_n 0, 1) := by decide +kernel
theorem dX12_paid_16 : decode cX12_paid 16 = .ok (.invokevirtual 334, 3) := by decide +kernel
theorem dX12_paid_19 : decode cX12_paid 19 = .ok (.aload_n 0, 1) := by decide +kernel
theorem dX12_paid_20 : decode cX12_paid 20 = .ok (.getfield 309, 3) := by decide +kernel
theorem dX12_paid_23 : decode cX12_paid 23 = .ok (.ireturn, 1) := by decide +kernel
theorem dX12_isDone_0 : decode cX12_isDone 0 = .ok (.aload_n 0, 1) := by decide +kernel
theorem dX12_isDone_1 : decode cX12_isDone 1 = .ok (.getfield 34, 3) := by decide +kernel
theorem dX12_isDone_4 : decode cX12_isDone 4 = .ok (.iconst 4, 1) := by decide +kernel
theorem dX12_isDone_5 : decode cX12_isDone 5 = .ok (.iaload, 1) := by decide +kernel
theorem dX12_isDone_6 : decode cX12_isDone 6 = .ok (.aload_n 0, 1) := by decide +kernel
theorem dX12_isDone_7 : decode cX12_isDone 7 = .ok (.invokevirtual 337, 3) := by decide +kernel
theorem dX12_isDone_10 : decode cX12_isDone 10 = .ok (.iconst (-1), 1) := by decide +kernel
theorem dX12_isDone_11 : decode cX12_isDone 11 = .ok (.ixor, 1) := by decide +kernel
theorem dX12_isDone_12 : decode cX12_isDone 12 = .ok (.iand, 1) := by decide +kernel
theorem dX12_isDone_13 : decode cX12_isDone 13 = .ok (.ifCond .ne 7, 3) := by decide +kernel
theorem dX12_isDone_16 : decode cX12_isDone 16 = .ok (.iconst 1, 1) := by decide +kernel
theorem dX12_isDone_17 : decode cX12_isDone 17 = .ok (.goto 4, 3) := by decide +kernel
theorem dX12_isDone_20 : decode cX12_isDone 20 = .ok (.iconst 0, 1) := by decide +kernel
theorem dX12_isDone_21 : decode cX12_isDone 21 = .ok (.ireturn, 1) := by decide +kernel
theorem dX12_done_0 : decode cX12_done 0 = .ok (.aload_n 0, 1) := by decide +kernel
theorem dX12_done_1 : decode cX12_done 1 = .ok (.iconst 0, 1) := by decide +kernel
theorem dX12_done_2 : decode cX12_done 2 = .ok (.putfield 89, 3) := by decide +kernel
theorem dX12_done_5 : decode cX12_done 5 = .ok (.aload_n 0, 1) := by decide +kernel
theorem dX12_done_6 : decode cX12_done 6 = .ok (.invokevirtual 267, 3) := by decide +kernel
theorem dX12_done_9 : decode cX12_done 9 = .ok (.ifCond .ne 6, 3) := by decide +kernel
theorem dX12_done_12 : decode cX12_done 12 = .ok (.bipush (-2), 2) := by decide +kernel
theorem dX12_done_14 : decode cX12_done 14 = .ok (.ireturn, 1) := by decide +kernel
theorem dX12_done_15 : decode cX12_done 15 = .ok (.aload_n 0, 1) := by decide +kernel
theorem dX12_done_16 : decode cX12_done 16 = .ok (.invokevirtual 334, 3) := by decide +kernel
theorem dX12_done_19 : decode cX12_done 19 = .ok (.aload_n 0, 1) := by decide +kernel
theorem dX12_done_20 : decode cX12_done 20 = .ok (.invokevirtual 345, 3) := by decide +kernel
theorem dX12_done_23 : decode cX12_done 23 = .ok (.ifCond .eq 7, 3) := by decide +kernel
theorem dX12_done_26 : decode cX12_done 26 = .ok (.iconst 1, 1) := by decide +kernel
theorem dX12_done_27 : decode cX12_done 27 = .ok (.goto 4, 3) := by decide +kernel
theorem dX12_done_30 : decode cX12_done 30 = .ok (.iconst 0, 1) := by decide +kernel
theorem dX12_done_31 : decode cX12_done 31 = .ok (.ireturn, 1) := by decide +kernel
theorem dX12_measure_0 : decode cX12_measure 0 = .ok (.aload_n 0, 1) := by decide +kernel
theorem dX12_measure_1 : decode cX12_measure 1 = .ok (.getfield 348, 3) := by decide +kernel
theorem dX12_measure_4 : decode cX12_measure 4 = .ok (.ifCond .ne 10, 3) := by decide +kernel
theorem dX12_measure_7 : decode cX12_measure 7 = .ok (.aload_n 0, 1) := by decide +kernel
theorem dX12_measure_8 : decode cX12_measure 8 = .ok (.getfield 300, 3) := by decide +kernel
theorem dX12_measure_11 : decode cX12_measure 11 = .ok (.goto 46, 3) := by decide +kernel
theorem dX12_measure_14 : decode cX12_measure 14 = .ok (.aload_n 0, 1) := by decide +kernel
theorem dX12_measure_15 : decode cX12_measure 15 = .ok (.getfield 348, 3) := by decide +kernel
theorem dX12_measure_18 : decode cX12_measure 18 = .ok (.iconst 1, 1) := by decide +kernel
theorem dX12_measure_19 : decode cX12_measure 19 = .ok (.if_icmp .ne 7, 3) := by decide +kernel
theorem dX12_measure_22 : decode cX12_measure 22 = .ok (.iload_n 1, 1) := by decide +kernel
theorem dX12_measure_23 : decode cX12_measure 23 = .ok (.goto 34, 3) := by decide +kernel
theorem dX12_measure_26 : decode cX12_measure 26 = .ok (.aload_n 0, 1) := by decide +kernel
theorem dX12_measure_27 : decode cX12_measure 27 = .ok (.getfield 348, 3) := by decide +kernel
theorem dX12_measure_30 : decode cX12_measure 30 = .ok (.iconst 2, 1) := by decide +kernel
theorem dX12_measure_31 : decode cX12_measure 31 = .ok (.if_icmp .ne 10, 3) := by decide +kernel
theorem dX12_measure_34 : decode cX12_measure 34 = .ok (.aload_n 0, 1) := by decide +kernel
theorem dX12_measure_35 : decode cX12_measure 35 = .ok (.getfield 306, 3) := by decide +kernel
theorem dX12_measure_38 : decode cX12_measure 38 = .ok (.goto 19, 3) := by decide +kernel
theorem dX12_measure_41 : decode cX12_measure 41 = .ok (.aload_n 0, 1) := by decide +kernel
theorem dX12_measure_42 : decode cX12_measure 42 = .ok (.getfield 348, 3) := by decide +kernel
theorem dX12_measure_45 : decode cX12_measure 45 = .ok (.iconst 3, 1) := by decide +kernel
theorem dX12_measure_46 : decode cX12_measure 46 = .ok (.if_icmp .ne 10, 3) := by decide +kernel
theorem dX12_measure_49 : decode cX12_measure 49 = .ok (.aload_n 0, 1) := by decide +kernel
theorem dX12_measure_50 : decode cX12_measure 50 = .ok (.getfield 309, 3) := by decide +kernel
theorem dX12_measure_53 : decode cX12_measure 53 = .ok (.goto 4, 3) := by decide +kernel
theorem dX12_measure_56 : decode cX12_measure 56 = .ok (.iconst 0, 1) := by decide +kernel
theorem dX12_measure_57 : decode cX12_measure 57 = .ok (.ireturn, 1) := by decide +kernel
theorem dX12_meets_0 : decode cX12_meets 0 = .ok (.aload_n 0, 1) := by decide +kernel
theorem dX12_meets_1 : decode cX12_meets 1 = .ok (.dup, 1) := by decide +kernel
theorem dX12_meets_2 : decode cX12_meets 2 = .ok (.getfield 351, 3) := by decide +kernel
theorem dX12_meets_5 : decode cX12_meets 5 = .ok (.iconst 1, 1) := by decide +kernel
theorem dX12_meets_6 : decode cX12_meets 6 = .ok (.iadd, 1) := by decide +kernel
theorem dX12_meets_7 : decode cX12_meets 7 = .ok (.putfield 351, 3) := by decide +kernel
theorem dX12_meets_10 : decode cX12_meets 10 = .ok (.aload_n 0, 1) := by decide +kernel
theorem dX12_meets_11 : decode cX12_meets 11 = .ok (.dup, 1) := by decide +kernel
theorem dX12_meets_12 : decode cX12_meets 12 = .ok (.getfield 354, 3) := by decide +kernel
theorem dX12_meets_15 : decode cX12_meets 15 = .ok (.iload_n 2, 1) := by decide +kernel
theorem dX12_meets_16 : decode cX12_meets 16 = .ok (.iand, 1) := by decide +kernel
theorem dX12_meets_17 : decode cX12_meets 17 = .ok (.putfield 354, 3) := by decide +kernel
theorem dX12_meets_20 : decode cX12_meets 20 = .ok (.aload_n 0, 1) := by decide +kernel
theorem dX12_meets_21 : decode cX12_meets 21 = .ok (.dup, 1) := by decide +kernel
theorem dX12_meets_22 : decode cX12_meets 22 = .ok (.getfield 357, 3) := by decide +kernel
theorem dX12_meets_25 : decode cX12_meets 25 = .ok (.iload_n 2, 1) := by decide +kernel
theorem dX12_meets_26 : decode cX12_meets 26 = .ok (.ior, 1) := by decide +kernel
theorem dX12_meets_27 : decode cX12_meets 27 = .ok (.putfield 357, 3) := by decide +kernel
theorem dX12_meets_30 : decode cX12_meets 30 = .ok (.aload_n 0, 1) := by decide +kernel
theorem dX12_meets_31 : decode cX12_meets 31 = .ok (.iload_n 1, 1) := by decide +kernel
theorem dX12_meets_32 : decode cX12_meets 32 = .ok (.invokevirtual 360, 3) := by decide +kernel
theorem dX12_meets_35 : decode cX12_meets 35 = .ok (.istore_n 3, 1) := by decide +kernel
theorem dX12_meets_36 : decode cX12_meets 36 = .ok (.aload_n 0, 1) := by decide +kernel
theorem dX12_meets_37 : decode cX12_meets 37 = .ok (.getfield 363, 3) := by decide +kernel
theorem dX12_meets_40 : decode cX12_meets 40 = .ok (.iconst (-1), 1) := by decide +kernel
theorem dX12_meets_41 : decode cX12_meets 41 = .ok (.if_icmp .eq 44, 3) := by decide +kernel
theorem dX12_meets_44 : decode cX12_meets 44 = .ok (.iload_n 3, 1) := by decide +kernel
theorem dX12_meets_45 : decode cX12_meets 45 = .ok (.aload_n 0, 1) := by decide +kernel
theorem dX12_meets_46 : decode cX12_meets 46 = .ok (.getfield 363, 3) := by decide +kernel
theorem dX12_meets_49 : decode cX12_meets 49 = .ok (.if_icmp .gt 35, 3) := by decide +kernel
theorem dX12_meets_52 : decode cX12_meets 52 = .ok (.iload_n 3, 1) := by decide +kernel
theorem dX12_meets_53 : decode cX12_meets 53 = .ok (.aload_n 0, 1) := by decide +kernel
theorem dX12_meets_54 : decode cX12_meets 54 = .ok (.getfield 363, 3) := by decide +kernel
theorem dX12_meets_57 : decode cX12_meets 57 = .ok (.if_icmp .ne 28, 3) := by decide +kernel
theorem dX12_meets_60 : decode cX12_meets 60 = .ok (.iload_n 1, 1) := by decide +kernel
theorem dX12_meets_61 : decode cX12_meets 61 = .ok (.aload_n 0, 1) := by decide +kernel
theorem dX12_meets_62 : decode cX12_meets 62 = .ok (.getfield 366, 3) := by decide +kernel
theorem dX12_meets_65 : decode cX12_meets 65 = .ok (.if_icmp .gt 19, 3) := by decide +kernel
theorem dX12_meets_68 : decode cX12_meets 68 = .ok (.iload_n 1, 1) := by decide +kernel
theorem dX12_meets_69 : decode cX12_meets 69 = .ok (.aload_n 0, 1) := by decide +kernel
theorem dX12_meets_70 : decode cX12_meets 70 = .ok (.getfield 366, 3) := by decide +kernel
theorem dX12_meets_73 : decode cX12_meets 73 = .ok (.if_icmp .ne 12, 3) := by decide +kernel
theorem dX12_meets_76 : decode cX12_meets 76 = .ok (.aload_n 0, 1) := by decide +kernel
theorem dX12_meets_77 : decode cX12_meets 77 = .ok (.iload_n 1, 1) := by decide +kernel
theorem dX12_meets_78 : decode cX12_meets 78 = .ok (.invokevirtual 369, 3) := by decide +kernel
theorem dX12_meets_81 : decode cX12_meets 81 = .ok (.ifCond .ne 4, 3) := by decide +kernel
theorem dX12_meets_84 : decode cX12_meets 84 = .ok (.return_, 1) := by decide +kernel
theorem dX12_meets_85 : decode cX12_meets 85 = .ok (.aload_n 0, 1) := by decide +kernel
theorem dX12_meets_86 : decode cX12_meets 86 = .ok (.iload_n 3, 1) := by decide +kernel
theorem dX12_meets_87 : decode cX12_meets 87 = .ok (.putfield 363, 3) := by decide +kernel
theorem dX12_meets_90 : decode cX12_meets 90 = .ok (.aload_n 0, 1) := by decide +kernel
theorem dX12_meets_91 : decode cX12_meets 91 = .ok (.iload_n 1, 1) := by decide +kernel
theorem dX12_meets_92 : decode cX12_meets 92 = .ok (.putfield 366, 3) := by decide +kernel
theorem dX12_meets_95 : decode cX12_meets 95 = .ok (.aload_n 0, 1) := by decide +kernel
theorem dX12_meets_96 : decode cX12_meets 96 = .ok (.aload_n 0, 1) := by decide +kernel
theorem dX12_meets_97 : decode cX12_meets 97 = .ok (.getfield 300, 3) := by decide +kernel
theorem dX12_meets_100 : decode cX12_meets 100 = .ok (.putfield 372, 3) := by decide +kernel
theorem dX12_meets_103 : decode cX12_meets 103 = .ok (.iconst 0, 1) := by decide +kernel
theorem dX12_meets_104 : decode cX12_meets 104 = .ok (.istore 4, 2) := by decide +kernel
theorem dX12_meets_106 : decode cX12_meets 106 = .ok (.iload 4, 2) := by decide +kernel
theorem dX12_meets_108 : decode cX12_meets 108 = .ok (.iload_n 1, 1) := by decide +kernel
theorem dX12_meets_109 : decode cX12_meets 109 = .ok (.if_icmp .ge 23, 3) := by decide +kernel
theorem dX12_meets_112 : decode cX12_meets 112 = .ok (.aload_n 0, 1) := by decide +kernel
theorem dX12_meets_113 : decode cX12_meets 113 = .ok (.getfield 68, 3) := by decide +kernel
theorem dX12_meets_116 : decode cX12_meets 116 = .ok (.iload 4, 2) := by decide +kernel
theorem dX12_meets_118 : decode cX12_meets 118 = .ok (.aload_n 0, 1) := by decide +kernel
theorem dX12_meets_119 : decode cX12_meets 119 = .ok (.getfield 65, 3) := by decide +kernel
theorem dX12_meets_122 : decode cX12_meets 122 = .ok (.iload 4, 2) := by decide +kernel
theorem dX12_meets_124 : decode cX12_meets 124 = .ok (.iaload, 1) := by decide +kernel
theorem dX12_meets_125 : decode cX12_meets 125 = .ok (.iastore, 1) := by decide +kernel
theorem dX12_meets_126 : decode cX12_meets 126 = .ok (.iinc 4 1, 3) := by decide +kernel
theorem dX12_meets_129 : decode cX12_meets 129 = .ok (.goto (-23), 3) := by decide +kernel
theorem dX12_meets_132 : decode cX12_meets 132 = .ok (.iconst 0, 1) := by decide +kernel
theorem dX12_meets_133 : decode cX12_meets 133 = .ok (.istore 4, 2) := by decide +kernel
theorem dX12_meets_135 : decode cX12_meets 135 = .ok (.iload 4, 2) := by decide +kernel
theorem dX12_meets_137 : decode cX12_meets 137 = .ok (.bipush 8, 2) := by decide +kernel
theorem dX12_meets_139 : decode cX12_meets 139 = .ok (.if_icmp .ge 23, 3) := by decide +kernel
theorem dX12_meets_142 : decode cX12_meets 142 = .ok (.aload_n 0, 1) := by decide +kernel
theorem dX12_meets_143 : decode cX12_meets 143 = .ok (.getfield 71, 3) := by decide +kernel
theorem dX12_meets_146 : decode cX12_meets 146 = .ok (.iload 4, 2) := by decide +kernel
theorem dX12_meets_148 : decode cX12_meets 148 = .ok (.aload_n 0, 1) := by decide +kernel
theorem dX12_meets_149 : decode cX12_meets 149 = .ok (.getfield 59, 3) := by decide +kernel
theorem dX12_meets_152 : decode cX12_meets 152 = .ok (.iload 4, 2) := by decide +kernel
theorem dX12_meets_154 : decode cX12_meets 154 = .ok (.iaload, 1) := by decide +kernel
theorem dX12_meets_155 : decode cX12_meets 155 = .ok (.iastore, 1) := by decide +kernel
theorem dX12_meets_156 : decode cX12_meets 156 = .ok (.iinc 4 1, 3) := by decide +kernel
theorem dX12_meets_159 : decode cX12_meets 159 = .ok (.goto (-24), 3) := by decide +kernel
theorem dX12_meets_162 : decode cX12_meets 162 = .ok (.return_, 1) := by decide +kernel
theorem dX12_isLess_0 : decode cX12_isLess 0 = .ok (.iconst 0, 1) := by decide +kernel
theorem dX12_isLess_1 : decode cX12_isLess 1 = .ok (.istore_n 2, 1) := by decide +kernel
theorem dX12_isLess_2 : decode cX12_isLess 2 = .ok (.iload_n 2, 1) := by decide +kernel
theorem dX12_isLess_3 : decode cX12_isLess 3 = .ok (.iload_n 1, 1) := by decide +kernel
theorem dX12_isLess_4 : decode cX12_isLess 4 = .ok (.if_icmp .ge 45, 3) := by decide +kernel
theorem dX12_isLess_7 : decode cX12_isLess 7 = .ok (.aload_n 0, 1) := by decide +kernel
theorem dX12_isLess_8 : decode cX12_isLess 8 = .ok (.getfield 65, 3) := by decide +kernel
theorem dX12_isLess_11 : decode cX12_isLess 11 = .ok (.iload_n 2, 1) := by decide +kernel
theorem dX12_isLess_12 : decode cX12_isLess 12 = .ok (.iaload, 1) := by decide +kernel
theorem dX12_isLess_13 : decode cX12_isLess 13 = .ok (.aload_n 0, 1) := by decide +kernel
theorem dX12_isLess_14 : decode cX12_isLess 14 = .ok (.getfield 68, 3) := by decide +kernel
theorem dX12_isLess_17 : decode cX12_isLess 17 = .ok (.iload_n 2, 1) := by decide +kernel
theorem dX12_isLess_18 : decode cX12_isLess 18 = .ok (.iaload, 1) := by decide +kernel
theorem dX12_isLess_19 : decode cX12_isLess 19 = .ok (.if_icmp .eq 24, 3) := by decide +kernel
theorem dX12_isLess_22 : decode cX12_isLess 22 = .ok (.aload_n 0, 1) := by decide +kernel
theorem dX12_isLess_23 : decode cX12_isLess 23 = .ok (.getfield 65, 3) := by decide +kernel
theorem dX12_isLess_26 : decode cX12_isLess 26 = .ok (.iload_n 2, 1) := by decide +kernel
theorem dX12_isLess_27 : decode cX12_isLess 27 = .ok (.iaload, 1) := by decide +kernel
theorem dX12_isLess_28 : decode cX12_isLess 28 = .ok (.aload_n 0, 1) := by decide +kernel
theorem dX12_isLess_29 : decode cX12_isLess 29 = .ok (.getfield 68, 3) := by decide +kernel
theorem dX12_isLess_32 : decode cX12_isLess 32 = .ok (.iload_n 2, 1) := by decide +kernel
theorem dX12_isLess_33 : decode cX12_isLess 33 = .ok (.iaload, 1) := by decide +kernel
theorem dX12_isLess_34 : decode cX12_isLess 34 = .ok (.if_icmp .ge 7, 3) := by decide +kernel
theorem dX12_isLess_37 : decode cX12_isLess 37 = .ok (.iconst 1, 1) := by decide +kernel
theorem dX12_isLess_38 : decode cX12_isLess 38 = .ok (.goto 4, 3) := by decide +kernel
theorem dX12_isLess_41 : decode cX12_isLess 41 = .ok (.iconst 0, 1) := by decide +kernel
theorem dX12_isLess_42 : decode cX12_isLess 42 = .ok (.ireturn, 1) := by decide +kernel
theorem dX12_isLess_43 : decode cX12_isLess 43 = .ok (.iinc 2 1, 3) := by decide +kernel
theorem dX12_isLess_46 : decode cX12_isLess 46 = .ok (.goto (-44), 3) := by decide +kernel
theorem dX12_isLess_49 : decode cX12_isLess 49 = .ok (.iconst 0, 1) := by decide +kernel
theorem dX12_isLess_50 : decode cX12_isLess 50 = .ok (.ireturn, 1) := by decide +kernel
theorem dX12_rows_0 : decode cX12_rows 0 = .ok (.aload_n 0, 1) := by decide +kernel
theorem dX12_rows_1 : decode cX12_rows 1 = .ok (.invokevirtual 345, 3) := by decide +kernel
theorem dX12_rows_4 : decode cX12_rows 4 = .ok (.ifCond .eq 10, 3) := by decide +kernel
theorem dX12_rows_7 : decode cX12_rows 7 = .ok (.aload_n 0, 1) := by decide +kernel
theorem dX12_rows_8 : decode cX12_rows 8 = .ok (.iload_n 1, 1) := by decide +kernel
theorem dX12_rows_9 : decode cX12_rows 9 = .ok (.iload_n 3, 1) := by decide +kernel
theorem dX12_rows_10 : decode cX12_rows 10 = .ok (.invokevirtual 375, 3) := by decide +kernel
theorem dX12_rows_13 : decode cX12_rows 13 = .ok (.return_, 1) := by decide +kernel
theorem dX12_rows_14 : decode cX12_rows 14 = .ok (.aload_n 0, 1) := by decide +kernel
theorem dX12_rows_15 : decode cX12_rows 15 = .ok (.getfield 348, 3) := by decide +kernel
theorem dX12_rows_18 : decode cX12_rows 18 = .ok (.iconst 4, 1) := by decide +kernel
theorem dX12_rows_19 : decode cX12_rows 19 = .ok (.if_icmp .eq 24, 3) := by decide +kernel
theorem dX12_rows_22 : decode cX12_rows 22 = .ok (.aload_n 0, 1) := by decide +kernel
theorem dX12_rows_23 : decode cX12_rows 23 = .ok (.getfield 363, 3) := by decide +kernel
theorem dX12_rows_26 : decode cX12_rows 26 = .ok (.iconst (-1), 1) := by decide +kernel
theorem dX12_rows_27 : decode cX12_rows 27 = .ok (.if_icmp .eq 16, 3) := by decide +kernel
theorem dX12_rows_30 : decode cX12_rows 30 = .ok (.aload_n 0, 1) := by decide +kernel
theorem dX12_rows_31 : decode cX12_rows 31 = .ok (.iload_n 1, 1) := by decide +kernel
theorem dX12_rows_32 : decode cX12_rows 32 = .ok (.invokevirtual 360, 3) := by decide +kernel
theorem dX12_rows_35 : decode cX12_rows 35 = .ok (.aload_n 0, 1) := by decide +kernel
theorem dX12_rows_36 : decode cX12_rows 36 = .ok (.getfield 363, 3) := by decide +kernel
theorem dX12_rows_39 : decode cX12_rows 39 = .ok (.if_icmp .le 4, 3) := by decide +kernel
theorem dX12_rows_42 : decode cX12_rows 42 = .ok (.return_, 1) := by decide +kernel
theorem dX12_rows_43 : decode cX12_rows 43 = .ok (.iconst 0, 1) := by decide +kernel
theorem dX12_rows_44 : decode cX12_rows 44 = .ok (.istore 4, 2) := by decide +kernel
theorem dX12_rows_46 : decode cX12_rows 46 = .ok (.iload 4, 2) := by decide +kernel
theorem dX12_rows_48 : decode cX12_rows 48 = .ok (.aload_n 0, 1) := by decide +kernel
theorem dX12_rows_49 : decode cX12_rows 49 = .ok (.getfield 34, 3) := by decide +kernel
theorem dX12_rows_52 : decode cX12_rows 52 = .ok (.iconst 3, 1) := by decide +kernel
theorem dX12_rows_53 : decode cX12_rows 53 = .ok (.iaload, 1) := by decide +kernel
theorem dX12_rows_54 : decode cX12_rows 54 = .ok (.if_icmp .ge 144, 3) := by decide +kernel
theorem dX12_rows_57 : decode cX12_rows 57 = .ok (.iload_n 2, 1) := by decide +kernel
theorem dX12_rows_58 : decode cX12_rows 58 = .ok (.iload 4, 2) := by decide +kernel
theorem dX12_rows_60 : decode cX12_rows 60 = .ok (.invokestatic 278, 3) := by decide +kernel
theorem dX12_rows_63 : decode cX12_rows 63 = .ok (.ifCond .eq 21, 3) := by decide +kernel
theorem dX12_rows_66 : decode cX12_rows 66 = .ok (.iload_n 3, 1) := by decide +kernel
theorem dX12_rows_67 : decode cX12_rows 67 = .ok (.iload 4, 2) := by decide +kernel
theorem dX12_rows_69 : decode cX12_rows 69 = .ok (.invokestatic 278, 3) := by decide +kernel
theorem dX12_rows_72 : decode cX12_rows 72 = .ok (.ifCond .ne 12, 3) := by decide +kernel
theorem dX12_rows_75 : decode cX12_rows 75 = .ok (.aload_n 0, 1) := by decide +kernel
theorem dX12_rows_76 : decode cX12_rows 76 = .ok (.iload 4, 2) := by decide +kernel
theorem dX12_rows_78 : decode cX12_rows 78 = .ok (.invokevirtual 328, 3) := by decide +kernel
theorem dX12_rows_81 : decode cX12_rows 81 = .ok (.goto 4, 3) := by decide +kernel
theorem dX12_rows_84 : decode cX12_rows 84 = .ok (.iconst (-1), 1) := by decide +kernel
theorem dX12_rows_85 : decode cX12_rows 85 = .ok (.istore 5, 2) := by decide +kernel
theorem dX12_rows_87 : decode cX12_rows 87 = .ok (.iload 5, 2) := by decide +kernel
theorem dX12_rows_89 : decode cX12_rows 89 = .ok (.iconst (-1), 1) := by decide +kernel
theorem dX12_rows_90 : decode cX12_rows 90 = .ok (.if_icmp .ne 6, 3) := by decide +kernel
theorem dX12_rows_93 : decode cX12_rows 93 = .ok (.goto 99, 3) := by decide +kernel
theorem dX12_rows_96 : decode cX12_rows 96 = .ok (.aload_n 0, 1) := by decide +kernel
theorem dX12_rows_97 : decode cX12_rows 97 = .ok (.getfield 300, 3) := by decide +kernel
theorem dX12_rows_100 : decode cX12_rows 100 = .ok (.istore 6, 2) := by decide +kernel
theorem dX12_rows_102 : decode cX12_rows 102 = .ok (.aload_n 0, 1) := by decide +kernel
theorem dX12_rows_103 : decode cX12_rows 103 = .ok (.getfield 303, 3) := by decide +kernel
theorem dX12_rows_106 : decode cX12_rows 106 = .ok (.istore 7, 2) := by decide +kernel
theorem dX12_rows_108 : decode cX12_rows 108 = .ok (.aload_n 0, 1) := by decide +kernel
theorem dX12_rows_109 : decode cX12_rows 109 = .ok (.getfield 306, 3) := by decide +kernel
theorem dX12_rows_112 : decode cX12_rows 112 = .ok (.istore 8, 2) := by decide +kernel
theorem dX12_rows_114 : decode cX12_rows 114 = .ok (.aload_n 0, 1) := by decide +kernel
theorem dX12_rows_115 : decode cX12_rows 115 = .ok (.getfield 309, 3) := by decide +kernel
theorem dX12_rows_118 : decode cX12_rows 118 = .ok (.istore 9, 2) := by decide +kernel
theorem dX12_rows_120 : decode cX12_rows 120 = .ok (.aload_n 0, 1) := by decide +kernel
theorem dX12_rows_121 : decode cX12_rows 121 = .ok (.getfield 59, 3) := by decide +kernel
theorem dX12_rows_124 : decode cX12_rows 124 = .ok (.iload 4, 2) := by decide +kernel
theorem dX12_rows_126 : decode cX12_rows 126 = .ok (.iaload, 1) := by decide +kernel
theorem dX12_rows_127 : decode cX12_rows 127 = .ok (.istore 10, 2) := by decide +kernel
theorem dX12_rows_129 : decode cX12_rows 129 = .ok (.aload_n 0, 1) := by decide +kernel
theorem dX12_rows_130 : decode cX12_rows 130 = .ok (.iload 4, 2) := by decide +kernel
theorem dX12_rows_132 : decode cX12_rows 132 = .ok (.iload 5, 2) := by decide +kernel
theorem dX12_rows_134 : decode cX12_rows 134 = .ok (.invokevirtual 331, 3) := by decide +kernel
theorem dX12_rows_137 : decode cX12_rows 137 = .ok (.aload_n 0, 1) := by decide +kernel
theorem dX12_rows_138 : decode cX12_rows 138 = .ok (.getfield 65, 3) := by decide +kernel
theorem dX12_rows_141 : decode cX12_rows 141 = .ok (.iload_n 1, 1) := by decide +kernel
theorem dX12_rows_142 : decode cX12_rows 142 = .ok (.iload 4, 2) := by decide +kernel
theorem dX12_rows_144 : decode cX12_rows 144 = .ok (.iastore, 1) := by decide +kernel
theorem dX12_rows_145 : decode cX12_rows 145 = .ok (.aload_n 0, 1) := by decide +kernel
theorem dX12_rows_146 : decode cX12_rows 146 = .ok (.iload_n 1, 1) := by decide +kernel
theorem dX12_rows_147 : decode cX12_rows 147 = .ok (.iconst 1, 1) := by decide +kernel
theorem dX12_rows_148 : decode cX12_rows 148 = .ok (.iadd, 1) := by decide +kernel
theorem dX12_rows_149 : decode cX12_rows 149 = .ok (.iload_n 2, 1) := by decide +kernel
theorem dX12_rows_150 : decode cX12_rows 150 = .ok (.iload_n 3, 1) := by decide +kernel
theorem dX12_rows_151 : decode cX12_rows 151 = .ok (.iconst 1, 1) := by decide +kernel
theorem dX12_rows_152 : decode cX12_rows 152 = .ok (.iload 4, 2) := by decide +kernel
theorem dX12_rows_154 : decode cX12_rows 154 = .ok (.ishl, 1) := by decide +kernel
theorem dX12_rows_155 : decode cX12_rows 155 = .ok (.ior, 1) := by decide +kernel
theorem dX12_rows_156 : decode cX12_rows 156 = .ok (.invokevirtual 378, 3) := by decide +kernel
theorem dX12_rows_159 : decode cX12_rows 159 = .ok (.aload_n 0, 1) := by decide +kernel
theorem dX12_rows_160 : decode cX12_rows 160 = .ok (.iload 6, 2) := by decide +kernel
theorem dX12_rows_162 : decode cX12_rows 162 = .ok (.putfield 300, 3) := by decide +kernel
theorem dX12_rows_165 : decode cX12_rows 165 = .ok (.aload_n 0, 1) := by decide +kernel
theorem dX12_rows_166 : decode cX12_rows 166 = .ok (.iload 7, 2) := by decide +kernel
theorem dX12_rows_168 : decode cX12_rows 168 = .ok (.putfield 303, 3) := by decide +kernel
theorem dX12_rows_171 : decode cX12_rows 171 = .ok (.aload_n 0, 1) := by decide +kernel
theorem dX12_rows_172 : decode cX12_rows 172 = .ok (.iload 8, 2) := by decide +kernel
theorem dX12_rows_174 : decode cX12_rows 174 = .ok (.putfield 306, 3) := by decide +kernel
theorem dX12_rows_177 : decode cX12_rows 177 = .ok (.aload_n 0, 1) := by decide +kernel
theorem dX12_rows_178 : decode cX12_rows 178 = .ok (.iload 9, 2) := by decide +kernel
theorem dX12_rows_180 : decode cX12_rows 180 = .ok (.putfield 309, 3) := by decide +kernel
theorem dX12_rows_183 : decode cX12_rows 183 = .ok (.aload_n 0, 1) := by decide +kernel
theorem dX12_rows_184 : decode cX12_rows 184 = .ok (.getfield 59, 3) := by decide +kernel
theorem dX12_rows_187 : decode cX12_rows 187 = .ok (.iload 4, 2) := by decide +kernel
theorem dX12_rows_189 : decode cX12_rows 189 = .ok (.iload 10, 2) := by decide +kernel
theorem dX12_rows_191 : decode cX12_rows 191 = .ok (.iastore, 1) := by decide +kernel
theorem dX12_rows_192 : decode cX12_rows 192 = .ok (.iinc 4 1, 3) := by decide +kernel
theorem dX12_rows_195 : decode cX12_rows 195 = .ok (.goto (-149), 3) := by decide +kernel
theorem dX12_rows_198 : decode cX12_rows 198 = .ok (.return_, 1) := by decide +kernel
theorem dX12_finds_0 : decode cX12_finds 0 = .ok (.aload_n 0, 1) := by decide +kernel
theorem dX12_finds_1 : decode cX12_finds 1 = .ok (.iload_n 1, 1) := by decide +kernel
theorem dX12_finds_2 : decode cX12_finds 2 = .ok (.putfield 348, 3) := by decide +kernel
theorem dX12_finds_5 : decode cX12_finds 5 = .ok (.aload_n 0, 1) := by decide +kernel
theorem dX12_finds_6 : decode cX12_finds 6 = .ok (.iconst (-1), 1) := by decide +kernel
theorem dX12_finds_7 : decode cX12_finds 7 = .ok (.putfield 363, 3) := by decide +kernel
theorem dX12_finds_10 : decode cX12_finds 10 = .ok (.aload_n 0, 1) := by decide +kernel
theorem dX12_finds_11 : decode cX12_finds 11 = .ok (.iconst 0, 1) := by decide +kernel
theorem dX12_finds_12 : decode cX12_finds 12 = .ok (.putfield 366, 3) := by decide +kernel
theorem dX12_finds_15 : decode cX12_finds 15 = .ok (.aload_n 0, 1) := by decide +kernel
theorem dX12_finds_16 : decode cX12_finds 16 = .ok (.iconst 0, 1) := by decide +kernel
theorem dX12_finds_17 : decode cX12_finds 17 = .ok (.putfield 351, 3) := by decide +kernel
theorem dX12_finds_20 : decode cX12_finds 20 = .ok (.aload_n 0, 1) := by decide +kernel
theorem dX12_finds_21 : decode cX12_finds 21 = .ok (.sipush 255, 3) := by decide +kernel
theorem dX12_finds_24 : decode cX12_finds 24 = .ok (.putfield 354, 3) := by decide +kernel
theorem dX12_finds_27 : decode cX12_finds 27 = .ok (.aload_n 0, 1) := by decide +kernel
theorem dX12_finds_28 : decode cX12_finds 28 = .ok (.iconst 0, 1) := by decide +kernel
theorem dX12_finds_29 : decode cX12_finds 29 = .ok (.putfield 357, 3) := by decide +kernel
theorem dX12_finds_32 : decode cX12_finds 32 = .ok (.aload_n 0, 1) := by decide +kernel
theorem dX12_finds_33 : decode cX12_finds 33 = .ok (.iconst 0, 1) := by decide +kernel
theorem dX12_finds_34 : decode cX12_finds 34 = .ok (.putfield 306, 3) := by decide +kernel
theorem dX12_finds_37 : decode cX12_finds 37 = .ok (.aload_n 0, 1) := by decide +kernel
theorem dX12_finds_38 : decode cX12_finds 38 = .ok (.iconst 0, 1) := by decide +kernel
theorem dX12_finds_39 : decode cX12_finds 39 = .ok (.putfield 309, 3) := by decide +kernel
theorem dX12_finds_42 : decode cX12_finds 42 = .ok (.aload_n 0, 1) := by decide +kernel
theorem dX12_finds_43 : decode cX12_finds 43 = .ok (.iconst 0, 1) := by decide +kernel
theorem dX12_finds_44 : decode cX12_finds 44 = .ok (.aload_n 0, 1) := by decide +kernel
theorem dX12_finds_45 : decode cX12_finds 45 = .ok (.invokevirtual 337, 3) := by decide +kernel
theorem dX12_finds_48 : decode cX12_finds 48 = .ok (.iconst (-1), 1) := by decide +kernel
theorem dX12_finds_49 : decode cX12_finds 49 = .ok (.ixor, 1) := by decide +kernel
theorem dX12_finds_50 : decode cX12_finds 50 = .ok (.iconst 0, 1) := by decide +kernel
theorem dX12_finds_51 : decode cX12_finds 51 = .ok (.invokevirtual 378, 3) := by decide +kernel
theorem dX12_finds_54 : decode cX12_finds 54 = .ok (.aload_n 0, 1) := by decide +kernel
theorem dX12_finds_55 : decode cX12_finds 55 = .ok (.getfield 363, 3) := by decide +kernel
theorem dX12_finds_58 : decode cX12_finds 58 = .ok (.ireturn, 1) := by decide +kernel
theorem dX12_findsNow_0 : decode cX12_findsNow 0 = .ok (.aload_n 0, 1) := by decide +kernel
theorem dX12_findsNow_1 : decode cX12_findsNow 1 = .ok (.invokevirtual 334, 3) := by decide +kernel
theorem dX12_findsNow_4 : decode cX12_findsNow 4 = .ok (.aload_n 0, 1) := by decide +kernel
theorem dX12_findsNow_5 : decode cX12_findsNow 5 = .ok (.iload_n 1, 1) := by decide +kernel
theorem dX12_findsNow_6 : decode cX12_findsNow 6 = .ok (.invokevirtual 382, 3) := by decide +kernel
theorem dX12_findsNow_9 : decode cX12_findsNow 9 = .ok (.ireturn, 1) := by decide +kernel
theorem dX12_stepOf_0 : decode cX12_stepOf 0 = .ok (.aload_n 0, 1) := by decide +kernel
theorem dX12_stepOf_1 : decode cX12_stepOf 1 = .ok (.iload_n 1, 1) := by decide +kernel
theorem dX12_stepOf_2 : decode cX12_stepOf 2 = .ok (.invokevirtual 385, 3) := by decide +kernel
theorem dX12_stepOf_5 : decode cX12_stepOf 5 = .ok (.iconst (-1), 1) := by decide +kernel
theorem dX12_stepOf_6 : decode cX12_stepOf 6 = .ok (.if_icmp .eq 28, 3) := by decide +kernel
theorem dX12_stepOf_9 : decode cX12_stepOf 9 = .ok (.iload_n 2, 1) := by decide +kernel
theorem dX12_stepOf_10 : decode cX12_stepOf 10 = .ok (.i2l, 1) := by decide +kernel
theorem dX12_stepOf_11 : decode cX12_stepOf 11 = .ok (.lconst 0, 1) := by decide +kernel
theorem dX12_stepOf_12 : decode cX12_stepOf 12 = .ok (.aload_n 0, 1) := by decide +kernel
theorem dX12_stepOf_13 : decode cX12_stepOf 13 = .ok (.getfield 366, 3) := by decide +kernel
theorem dX12_stepOf_16 : decode cX12_stepOf 16 = .ok (.iconst 1, 1) := by decide +kernel
theorem dX12_stepOf_17 : decode cX12_stepOf 17 = .ok (.isub, 1) := by decide +kernel
theorem dX12_stepOf_18 : decode cX12_stepOf 18 = .ok (.i2l, 1) := by decide +kernel
theorem dX12_stepOf_19 : decode cX12_stepOf 19 = .ok (.invokestatic 94, 3) := by decide +kernel
theorem dX12_stepOf_22 : decode cX12_stepOf 22 = .ok (.ifCond .eq 12, 3) := by decide +kernel
theorem dX12_stepOf_25 : decode cX12_stepOf 25 = .ok (.aload_n 0, 1) := by decide +kernel
theorem dX12_stepOf_26 : decode cX12_stepOf 26 = .ok (.getfield 68, 3) := by decide +kernel
theorem dX12_stepOf_29 : decode cX12_stepOf 29 = .ok (.iload_n 2, 1) := by decide +kernel
theorem dX12_stepOf_30 : decode cX12_stepOf 30 = .ok (.iaload, 1) := by decide +kernel
theorem dX12_stepOf_31 : decode cX12_stepOf 31 = .ok (.goto 4, 3) := by decide +kernel
theorem dX12_stepOf_34 : decode cX12_stepOf 34 = .ok (.iconst (-1), 1) := by decide +kernel
theorem dX12_stepOf_35 : decode cX12_stepOf 35 = .ok (.ireturn, 1) := by decide +kernel
theorem dX12_soonest_0 : decode cX12_soonest 0 = .ok (.aload_n 0, 1) := by decide +kernel
theorem dX12_soonest_1 : decode cX12_soonest 1 = .ok (.iconst 0, 1) := by decide +kernel
theorem dX12_soonest_2 : decode cX12_soonest 2 = .ok (.putfield 89, 3) := by decide +kernel
theorem dX12_soonest_5 : decode cX12_soonest 5 = .ok (.aload_n 0, 1) := by decide +kernel
theorem dX12_soonest_6 : decode cX12_soonest 6 = .ok (.invokevirtual 267, 3) := by decide +kernel
theorem dX12_soonest_9 : decode cX12_soonest 9 = .ok (.ifCond .eq 11, 3) := by decide +kernel
theorem dX12_soonest_12 : decode cX12_soonest 12 = .ok (.aload_n 0, 1) := by decide +kernel
theorem dX12_soonest_13 : decode cX12_soonest 13 = .ok (.iconst 0, 1) := by decide +kernel
theorem dX12_soonest_14 : decode cX12_soonest 14 = .ok (.invokevirtual 385, 3) := by decide +kernel
theorem dX12_soonest_17 : decode cX12_soonest 17 = .ok (.goto 5, 3) := by decide +kernel
theorem dX12_soonest_20 : decode cX12_soonest 20 = .ok (.bipush (-2), 2) := by decide +kernel
theorem dX12_soonest_22 : decode cX12_soonest 22 = .ok (.ireturn, 1) := by decide +kernel
theorem dX12_step_0 : decode cX12_step 0 = .ok (.aload_n 0, 1) := by decide +kernel
theorem dX12_step_1 : decode cX12_step 1 = .ok (.iconst 0, 1) := by decide +kernel
theorem dX12_step_2 : decode cX12_step 2 = .ok (.putfield 89, 3) := by decide +kernel
theorem dX12_step_5 : decode cX12_step 5 = .ok (.aload_n 0, 1) := by decide +kernel
theorem dX12_step_6 : decode cX12_step 6 = .ok (.invokevirtual 267, 3) := by decide +kernel
theorem dX12_step_9 : decode cX12_step 9 = .ok (.ifCond .eq 12, 3) := by decide +kernel
theorem dX12_step_12 : decode cX12_step 12 = .ok (.aload_n 0, 1) := by decide +kernel
theorem dX12_step_13 : decode cX12_step 13 = .ok (.iconst 0, 1) := by decide +kernel
theorem dX12_step_14 : decode cX12_step 14 = .ok (.iload_n 1, 1) := by decide +kernel
theorem dX12_step_15 : decode cX12_step 15 = .ok (.invokevirtual 388, 3) := by decide +kernel
theorem dX12_step_18 : decode cX12_step 18 = .ok (.goto 5, 3) := by decide +kernel
theorem dX12_step_21 : decode cX12_step 21 = .ok (.bipush (-2), 2) := by decide +kernel
theorem dX12_step_23 : decode cX12_step 23 = .ok (.ireturn, 1) := by decide +kernel
theorem dX12_fewest_0 : decode cX12_fewest 0 = .ok (.aload_n 0, 1) := by decide +kernel
theorem dX12_fewest_1 : decode cX12_fewest 1 = .ok (.iconst 0, 1) := by decide +kernel
theorem dX12_fewest_2 : decode cX12_fewest 2 = .ok (.putfield 89, 3) := by decide +kernel
theorem dX12_fewest_5 : decode cX12_fewest 5 = .ok (.aload_n 0, 1) := by decide +kernel
theorem dX12_fewest_6 : decode cX12_fewest 6 = .ok (.invokevirtual 267, 3) := by decide +kernel
theorem dX12_fewest_9 : decode cX12_fewest 9 = .ok (.ifCond .eq 11, 3) := by decide +kernel
theorem dX12_fewest_12 : decode cX12_fewest 12 = .ok (.aload_n 0, 1) := by decide +kernel
theorem dX12_fewest_13 : decode cX12_fewest 13 = .ok (.iconst 1, 1) := by decide +kernel
theorem dX12_fewest_14 : decode cX12_fewest 14 = .ok (.invokevirtual 385, 3) := by decide +kernel
theorem dX12_fewest_17 : decode cX12_fewest 17 = .ok (.goto 5, 3) := by decide +kernel
theorem dX12_fewest_20 : decode cX12_fewest 20 = .ok (.bipush (-2), 2) := by decide +kernel
theorem dX12_fewest_22 : decode cX12_fewest 22 = .ok (.ireturn, 1) := by decide +kernel
theorem dX12_least_0 : decode cX12_least 0 = .ok (.aload_n 0, 1) := by decide +kernel
theorem dX12_least_1 : decode cX12_least 1 = .ok (.iconst 0, 1) := by decide +kernel
theorem dX12_least_2 : decode cX12_least 2 = .ok (.putfield 89, 3) := by decide +kernel
theorem dX12_least_5 : decode cX12_least 5 = .ok (.aload_n 0, 1) := by decide +kernel
theorem dX12_least_6 : decode cX12_least 6 = .ok (.invokevirtual 267, 3) := by decide +kernel
theorem dX12_least_9 : decode cX12_least 9 = .ok (.ifCond .eq 11, 3) := by decide +kernel
theorem dX12_least_12 : decode cX12_least 12 = .ok (.aload_n 0, 1) := by decide +kernel
theorem dX12_least_13 : decode cX12_least 13 = .ok (.iconst 2, 1) := by decide +kernel
theorem dX12_least_14 : decode cX12_least 14 = .ok (.invokevirtual 385, 3) := by decide +kernel
theorem dX12_least_17 : decode cX12_least 17 = .ok (.goto 5, 3) := by decide +kernel
theorem dX12_least_20 : decode cX12_least 20 = .ok (.bipush (-2), 2) := by decide +kernel
theorem dX12_least_22 : decode cX12_least 22 = .ok (.ireturn, 1) := by decide +kernel
theorem dX12_tread_0 : decode cX12_tread 0 = .ok (.aload_n 0, 1) := by decide +kernel
theorem dX12_tread_1 : decode cX12_tread 1 = .ok (.iconst 0, 1) := by decide +kernel
theorem dX12_tread_2 : decode cX12_tread 2 = .ok (.putfield 89, 3) := by decide +kernel
theorem dX12_tread_5 : decode cX12_tread 5 = .ok (.aload_n 0, 1) := by decide +kernel
theorem dX12_tread_6 : decode cX12_tread 6 = .ok (.invokevirtual 267, 3) := by decide +kernel
theorem dX12_tread_9 : decode cX12_tread 9 = .ok (.ifCond .eq 12, 3) := by decide +kernel
theorem dX12_tread_12 : decode cX12_tread 12 = .ok (.aload_n 0, 1) := by decide +kernel
theorem dX12_tread_13 : decode cX12_tread 13 = .ok (.iconst 2, 1) := by decide +kernel
theorem dX12_tread_14 : decode cX12_tread 14 = .ok (.iload_n 1, 1) := by decide +kernel
theorem dX12_tread_15 : decode cX12_tread 15 = .ok (.invokevirtual 388, 3) := by decide +kernel
theorem dX12_tread_18 : decode cX12_tread 18 = .ok (.goto 5, 3) := by decide +kernel
theorem dX12_tread_21 : decode cX12_tread 21 = .ok (.bipush (-2), 2) := by decide +kernel
theorem dX12_tread_23 : decode cX12_tread 23 = .ok (.ireturn, 1) := by decide +kernel
theorem dX12_cheapest_0 : decode cX12_cheapest 0 = .ok (.aload_n 0, 1) := by decide +kernel
theorem dX12_cheapest_1 : decode cX12_cheapest 1 = .ok (.iconst 0, 1) := by decide +kernel
theorem dX12_cheapest_2 : decode cX12_cheapest 2 = .ok (.putfield 89, 3) := by decide +kernel
theorem dX12_cheapest_5 : decode cX12_cheapest 5 = .ok (.aload_n 0, 1) := by decide +kernel
theorem dX12_cheapest_6 : decode cX12_cheapest 6 = .ok (.invokevirtual 267, 3) := by decide +kernel
theorem dX12_cheapest_9 : decode cX12_cheapest 9 = .ok (.ifCond .eq 11, 3) := by decide +kernel
theorem dX12_cheapest_12 : decode cX12_cheapest 12 = .ok (.aload_n 0, 1) := by decide +kernel
theorem dX12_cheapest_13 : decode cX12_cheapest 13 = .ok (.iconst 3, 1) := by decide +kernel
theorem dX12_cheapest_14 : decode cX12_cheapest 14 = .ok (.invokevirtual 385, 3) := by decide +kernel
theorem dX12_cheapest_17 : decode cX12_cheapest 17 = .ok (.goto 5, 3) := by decide +kernel
theorem dX12_cheapest_20 : decode cX12_cheapest 20 = .ok (.bipush (-2), 2) := by decide +kernel
theorem dX12_cheapest_22 : decode cX12_cheapest 22 = .ok (.ireturn, 1) := by decide +kernel
theorem dX12_whom_0 : decode cX12_whom 0 = .ok (.aload_n 0, 1) := by decide +kernel
theorem dX12_whom_1 : decode cX12_whom 1 = .ok (.iconst 0, 1) := by decide +kernel
theorem dX12_whom_2 : decode cX12_whom 2 = .ok (.putfield 89, 3) := by decide +kernel
theorem dX12_whom_5 : decode cX12_whom 5 = .ok (.aload_n 0, 1) := by decide +kernel
theorem dX12_whom_6 : decode cX12_whom 6 = .ok (.invokevirtual 267, 3) := by decide +kernel
theorem dX12_whom_9 : decode cX12_whom 9 = .ok (.ifCond .ne 6, 3) := by decide +kernel
theorem dX12_whom_12 : decode cX12_whom 12 = .ok (.bipush (-2), 2) := by decide +kernel
theorem dX12_whom_14 : decode cX12_whom 14 = .ok (.ireturn, 1) := by decide +kernel
theorem dX12_whom_15 : decode cX12_whom 15 = .ok (.aload_n 0, 1) := by decide +kernel
theorem dX12_whom_16 : decode cX12_whom 16 = .ok (.iconst 3, 1) := by decide +kernel
theorem dX12_whom_17 : decode cX12_whom 17 = .ok (.invokevirtual 385, 3) := by decide +kernel
theorem dX12_whom_20 : decode cX12_whom 20 = .ok (.iconst (-1), 1) := by decide +kernel
theorem dX12_whom_21 : decode cX12_whom 21 = .ok (.if_icmp .ne 5, 3) := by decide +kernel
theorem dX12_whom_24 : decode cX12_whom 24 = .ok (.iconst (-1), 1) := by decide +kernel
theorem dX12_whom_25 : decode cX12_whom 25 = .ok (.ireturn, 1) := by decide +kernel
theorem dX12_whom_26 : decode cX12_whom 26 = .ok (.iconst 0, 1) := by decide +kernel
theorem dX12_whom_27 : decode cX12_whom 27 = .ok (.istore_n 1, 1) := by decide +kernel
theorem dX12_whom_28 : decode cX12_whom 28 = .ok (.iconst 0, 1) := by decide +kernel
theorem dX12_whom_29 : decode cX12_whom 29 = .ok (.istore_n 2, 1) := by decide +kernel
theorem dX12_whom_30 : decode cX12_whom 30 = .ok (.iload_n 2, 1) := by decide +kernel
theorem dX12_whom_31 : decode cX12_whom 31 = .ok (.aload_n 0, 1) := by decide +kernel
theorem dX12_whom_32 : decode cX12_whom 32 = .ok (.getfield 366, 3) := by decide +kernel
theorem dX12_whom_35 : decode cX12_whom 35 = .ok (.if_icmp .ge 20, 3) := by decide +kernel
theorem dX12_whom_38 : decode cX12_whom 38 = .ok (.iload_n 1, 1) := by decide +kernel
theorem dX12_whom_39 : decode cX12_whom 39 = .ok (.iconst 1, 1) := by decide +kernel
theorem dX12_whom_40 : decode cX12_whom 40 = .ok (.aload_n 0, 1) := by decide +kernel
theorem dX12_whom_41 : decode cX12_whom 41 = .ok (.getfield 68, 3) := by decide +kernel
theorem dX12_whom_44 : decode cX12_whom 44 = .ok (.iload_n 2, 1) := by decide +kernel
theorem dX12_whom_45 : decode cX12_whom 45 = .ok (.iaload, 1) := by decide +kernel
theorem dX12_whom_46 : decode cX12_whom 46 = .ok (.ishl, 1) := by decide +kernel
theorem dX12_whom_47 : decode cX12_whom 47 = .ok (.ior, 1) := by decide +kernel
theorem dX12_whom_48 : decode cX12_whom 48 = .ok (.istore_n 1, 1) := by decide +kernel
theorem dX12_whom_49 : decode cX12_whom 49 = .ok (.iinc 2 1, 3) := by decide +kernel
theorem dX12_whom_52 : decode cX12_whom 52 = .ok (.goto (-22), 3) := by decide +kernel
theorem dX12_whom_55 : decode cX12_whom 55 = .ok (.iload_n 1, 1) := by decide +kernel
theorem dX12_whom_56 : decode cX12_whom 56 = .ok (.ireturn, 1) := by decide +kernel
theorem dX12_ways_0 : decode cX12_ways 0 = .ok (.aload_n 0, 1) := by decide +kernel
theorem dX12_ways_1 : decode cX12_ways 1 = .ok (.iconst 0, 1) := by decide +kernel
theorem dX12_ways_2 : decode cX12_ways 2 = .ok (.putfield 89, 3) := by decide +kernel
theorem dX12_ways_5 : decode cX12_ways 5 = .ok (.aload_n 0, 1) := by decide +kernel
theorem dX12_ways_6 : decode cX12_ways 6 = .ok (.invokevirtual 267, 3) := by decide +kernel
theorem dX12_ways_9 : decode cX12_ways 9 = .ok (.ifCond .ne 6, 3) := by decide +kernel
theorem dX12_ways_12 : decode cX12_ways 12 = .ok (.bipush (-2), 2) := by decide +kernel
theorem dX12_ways_14 : decode cX12_ways 14 = .ok (.ireturn, 1) := by decide +kernel
theorem dX12_ways_15 : decode cX12_ways 15 = .ok (.aload_n 0, 1) := by decide +kernel
theorem dX12_ways_16 : decode cX12_ways 16 = .ok (.iconst 4, 1) := by decide +kernel
theorem dX12_ways_17 : decode cX12_ways 17 = .ok (.invokevirtual 385, 3) := by decide +kernel
theorem dX12_ways_20 : decode cX12_ways 20 = .ok (.pop, 1) := by decide +kernel
theorem dX12_ways_21 : decode cX12_ways 21 = .ok (.aload_n 0, 1) := by decide +kernel
theorem dX12_ways_22 : decode cX12_ways 22 = .ok (.getfield 351, 3) := by decide +kernel
theorem dX12_ways_25 : decode cX12_ways 25 = .ok (.ireturn, 1) := by decide +kernel
theorem dX12_always_0 : decode cX12_always 0 = .ok (.aload_n 0, 1) := by decide +kernel
theorem dX12_always_1 : decode cX12_always 1 = .ok (.iconst 0, 1) := by decide +kernel
theorem dX12_always_2 : decode cX12_always 2 = .ok (.putfield 89, 3) := by decide +kernel
theorem dX12_always_5 : decode cX12_always 5 = .ok (.aload_n 0, 1) := by decide +kernel
theorem dX12_always_6 : decode cX12_always 6 = .ok (.invokevirtual 267, 3) := by decide +kernel
theorem dX12_always_9 : decode cX12_always 9 = .ok (.ifCond .eq 13, 3) := by decide +kernel
theorem dX12_always_12 : decode cX12_always 12 = .ok (.iload_n 1, 1) := by decide +kernel
theorem dX12_always_13 : decode cX12_always 13 = .ok (.i2l, 1) := by decide +kernel
theorem dX12_always_14 : decode cX12_always 14 = .ok (.lconst 0, 1) := by decide +kernel
theorem dX12_always_15 : decode cX12_always 15 = .ok (.lconst 1, 1) := by decide +kernel
theorem dX12_always_16 : decode cX12_always 16 = .ok (.invokestatic 94, 3) := by decide +kernel
theorem dX12_always_19 : decode cX12_always 19 = .ok (.ifCond .ne 6, 3) := by decide +kernel
theorem dX12_always_22 : decode cX12_always 22 = .ok (.bipush (-2), 2) := by decide +kernel
theorem dX12_always_24 : decode cX12_always 24 = .ok (.ireturn, 1) := by decide +kernel
theorem dX12_always_25 : decode cX12_always 25 = .ok (.aload_n 0, 1) := by decide +kernel
theorem dX12_always_26 : decode cX12_always 26 = .ok (.iconst 4, 1) := by decide +kernel
theorem dX12_always_27 : decode cX12_always 27 = .ok (.invokevirtual 385, 3) := by decide +kernel
theorem dX12_always_30 : decode cX12_always 30 = .ok (.pop, 1) := by decide +kernel
theorem dX12_always_31 : decode cX12_always 31 = .ok (.aload_n 0, 1) := by decide +kernel
theorem dX12_always_32 : decode cX12_always 32 = .ok (.getfield 351, 3) := by decide +kernel
theorem dX12_always_35 : decode cX12_always 35 = .ok (.ifCond .ne 7, 3) := by decide +kernel
theorem dX12_always_38 : decode cX12_always 38 = .ok (.iconst 0, 1) := by decide +kernel
theorem dX12_always_39 : decode cX12_always 39 = .ok (.goto 18, 3) := by decide +kernel
theorem dX12_always_42 : decode cX12_always 42 = .ok (.iload_n 1, 1) := by decide +kernel
theorem dX12_always_43 : decode cX12_always 43 = .ok (.ifCond .ne 10, 3) := by decide +kernel
theorem dX12_always_46 : decode cX12_always 46 = .ok (.aload_n 0, 1) := by decide +kernel
theorem dX12_always_47 : decode cX12_always 47 = .ok (.getfield 354, 3) := by decide +kernel
theorem dX12_always_50 : decode cX12_always 50 = .ok (.goto 7, 3) := by decide +kernel
theorem dX12_always_53 : decode cX12_always 53 = .ok (.aload_n 0, 1) := by decide +kernel
theorem dX12_always_54 : decode cX12_always 54 = .ok (.getfield 357, 3) := by decide +kernel
theorem dX12_always_57 : decode cX12_always 57 = .ok (.ireturn, 1) := by decide +kernel
theorem dX12_slack_0 : decode cX12_slack 0 = .ok (.aload_n 0, 1) := by decide +kernel
theorem dX12_slack_1 : decode cX12_slack 1 = .ok (.iconst 0, 1) := by decide +kernel
theorem dX12_slack_2 : decode cX12_slack 2 = .ok (.putfield 89, 3) := by decide +kernel
theorem dX12_slack_5 : decode cX12_slack 5 = .ok (.aload_n 0, 1) := by decide +kernel
theorem dX12_slack_6 : decode cX12_slack 6 = .ok (.iload_n 1, 1) := by decide +kernel
theorem dX12_slack_7 : decode cX12_slack 7 = .ok (.i2l, 1) := by decide +kernel
theorem dX12_slack_8 : decode cX12_slack 8 = .ok (.invokevirtual 270, 3) := by decide +kernel
theorem dX12_slack_11 : decode cX12_slack 11 = .ok (.ifCond .ne 6, 3) := by decide +kernel
theorem dX12_slack_14 : decode cX12_slack 14 = .ok (.bipush (-2), 2) := by decide +kernel
theorem dX12_slack_16 : decode cX12_slack 16 = .ok (.ireturn, 1) := by decide +kernel
theorem dX12_slack_17 : decode cX12_slack 17 = .ok (.aload_n 0, 1) := by decide +kernel
theorem dX12_slack_18 : decode cX12_slack 18 = .ok (.iconst 0, 1) := by decide +kernel
theorem dX12_slack_19 : decode cX12_slack 19 = .ok (.invokevirtual 385, 3) := by decide +kernel
theorem dX12_slack_22 : decode cX12_slack 22 = .ok (.iconst (-1), 1) := by decide +kernel
theorem dX12_slack_23 : decode cX12_slack 23 = .ok (.if_icmp .ne 5, 3) := by decide +kernel
theorem dX12_slack_26 : decode cX12_slack 26 = .ok (.iconst (-1), 1) := by decide +kernel
theorem dX12_slack_27 : decode cX12_slack 27 = .ok (.ireturn, 1) := by decide +kernel
theorem dX12_slack_28 : decode cX12_slack 28 = .ok (.iconst 0, 1) := by decide +kernel
theorem dX12_slack_29 : decode cX12_slack 29 = .ok (.istore_n 2, 1) := by decide +kernel
theorem dX12_slack_30 : decode cX12_slack 30 = .ok (.iconst 0, 1) := by decide +kernel
theorem dX12_slack_31 : decode cX12_slack 31 = .ok (.istore_n 3, 1) := by decide +kernel
theorem dX12_slack_32 : decode cX12_slack 32 = .ok (.iload_n 3, 1) := by decide +kernel
theorem dX12_slack_33 : decode cX12_slack 33 = .ok (.aload_n 0, 1) := by decide +kernel
theorem dX12_slack_34 : decode cX12_slack 34 = .ok (.getfield 366, 3) := by decide +kernel
theorem dX12_slack_37 : decode cX12_slack 37 = .ok (.if_icmp .ge 29, 3) := by decide +kernel
theorem dX12_slack_40 : decode cX12_slack 40 = .ok (.iload_n 2, 1) := by decide +kernel
theorem dX12_slack_41 : decode cX12_slack 41 = .ok (.ifCond .ne 13, 3) := by decide +kernel
theorem dX12_slack_44 : decode cX12_slack 44 = .ok (.aload_n 0, 1) := by decide +kernel
theorem dX12_slack_45 : decode cX12_slack 45 = .ok (.getfield 68, 3) := by decide +kernel
theorem dX12_slack_48 : decode cX12_slack 48 = .ok (.iload_n 3, 1) := by decide +kernel
theorem dX12_slack_49 : decode cX12_slack 49 = .ok (.iaload, 1) := by decide +kernel
theorem dX12_slack_50 : decode cX12_slack 50 = .ok (.iload_n 1, 1) := by decide +kernel
theorem dX12_slack_51 : decode cX12_slack 51 = .ok (.if_icmp .ne 7, 3) := by decide +kernel
theorem dX12_slack_54 : decode cX12_slack 54 = .ok (.iconst 1, 1) := by decide +kernel
theorem dX12_slack_55 : decode cX12_slack 55 = .ok (.goto 4, 3) := by decide +kernel
theorem dX12_slack_58 : decode cX12_slack 58 = .ok (.iconst 0, 1) := by decide +kernel
theorem dX12_slack_59 : decode cX12_slack 59 = .ok (.istore_n 2, 1) := by decide +kernel
theorem dX12_slack_60 : decode cX12_slack 60 = .ok (.iinc 3 1, 3) := by decide +kernel
theorem dX12_slack_63 : decode cX12_slack 63 = .ok (.goto (-31), 3) := by decide +kernel
theorem dX12_slack_66 : decode cX12_slack 66 = .ok (.iload_n 2, 1) := by decide +kernel
theorem dX12_slack_67 : decode cX12_slack 67 = .ok (.ifCond .eq 42, 3) := by decide +kernel
theorem dX12_slack_70 : decode cX12_slack 70 = .ok (.aload_n 0, 1) := by decide +kernel
theorem dX12_slack_71 : decode cX12_slack 71 = .ok (.getfield 71, 3) := by decide +kernel
theorem dX12_slack_74 : decode cX12_slack 74 = .ok (.iload_n 1, 1) := by decide +kernel
theorem dX12_slack_75 : decode cX12_slack 75 = .ok (.iaload, 1) := by decide +kernel
theorem dX12_slack_76 : decode cX12_slack 76 = .ok (.sipush 9999, 3) := by decide +kernel
theorem dX12_slack_79 : decode cX12_slack 79 = .ok (.if_icmp .eq 30, 3) := by decide +kernel
theorem dX12_slack_82 : decode cX12_slack 82 = .ok (.aload_n 0, 1) := by decide +kernel
theorem dX12_slack_83 : decode cX12_slack 83 = .ok (.getfield 71, 3) := by decide +kernel
theorem dX12_slack_86 : decode cX12_slack 86 = .ok (.iload_n 1, 1) := by decide +kernel
theorem dX12_slack_87 : decode cX12_slack 87 = .ok (.iaload, 1) := by decide +kernel
theorem dX12_slack_88 : decode cX12_slack 88 = .ok (.aload_n 0, 1) := by decide +kernel
theorem dX12_slack_89 : decode cX12_slack 89 = .ok (.getfield 372, 3) := by decide +kernel
theorem dX12_slack_92 : decode cX12_slack 92 = .ok (.if_icmp .lt 17, 3) := by decide +kernel
theorem dX12_slack_95 : decode cX12_slack 95 = .ok (.aload_n 0, 1) := by decide +kernel
theorem dX12_slack_96 : decode cX12_slack 96 = .ok (.getfield 71, 3) := by decide +kernel
theorem dX12_slack_99 : decode cX12_slack 99 = .ok (.iload_n 1, 1) := by decide +kernel
theorem dX12_slack_100 : decode cX12_slack 100 = .ok (.iaload, 1) := by decide +kernel
theorem dX12_slack_101 : decode cX12_slack 101 = .ok (.aload_n 0, 1) := by decide +kernel
theorem dX12_slack_102 : decode cX12_slack 102 = .ok (.getfield 372, 3) := by decide +kernel
theorem dX12_slack_105 : decode cX12_slack 105 = .ok (.isub, 1) := by decide +kernel
theorem dX12_slack_106 : decode cX12_slack 106 = .ok (.goto 4, 3) := by decide +kernel
theorem dX12_slack_109 : decode cX12_slack 109 = .ok (.iconst (-1), 1) := by decide +kernel
theorem dX12_slack_110 : decode cX12_slack 110 = .ok (.ireturn, 1) := by decide +kernel
theorem dX12_laysStart_0 : decode cX12_laysStart 0 = .ok (.aload_n 0, 1) := by decide +kernel
theorem dX12_laysStart_1 : decode cX12_laysStart 1 = .ok (.iconst (-1), 1) := by decide +kernel
theorem dX12_laysStart_2 : decode cX12_laysStart 2 = .ok (.putfield 391, 3) := by decide +kernel
theorem dX12_laysStart_5 : decode cX12_laysStart 5 = .ok (.aload_n 0, 1) := by decide +kernel
theorem dX12_laysStart_6 : decode cX12_laysStart 6 = .ok (.iconst 0, 1) := by decide +kernel
theorem dX12_laysStart_7 : decode cX12_laysStart 7 = .ok (.putfield 394, 3) := by decide +kernel
theorem dX12_laysStart_10 : decode cX12_laysStart 10 = .ok (.iconst 0, 1) := by decide +kernel
theorem dX12_laysStart_11 : decode cX12_laysStart 11 = .ok (.istore_n 1, 1) := by decide +kernel
theorem dX12_laysStart_12 : decode cX12_laysStart 12 = .ok (.iload_n 1, 1) := by decide +kernel
theorem dX12_laysStart_13 : decode cX12_laysStart 13 = .ok (.bipush 50, 2) := by decide +kernel
theorem dX12_laysStart_15 : decode cX12_laysStart 15 = .ok (.if_icmp .ge 58, 3) := by decide +kernel
theorem dX12_laysStart_18 : decode cX12_laysStart 18 = .ok (.aload_n 0, 1) := by decide +kernel
theorem dX12_laysStart_19 : decode cX12_laysStart 19 = .ok (.iload_n 1, 1) := by decide +kernel
theorem dX12_laysStart_20 : decode cX12_laysStart 20 = .ok (.invokevirtual 325, 3) := by decide +kernel
theorem dX12_laysStart_23 : decode cX12_laysStart 23 = .ok (.aload_n 0, 1) := by decide +kernel
theorem dX12_laysStart_24 : decode cX12_laysStart 24 = .ok (.iconst 0, 1) := by decide +kernel
theorem dX12_laysStart_25 : decode cX12_laysStart 25 = .ok (.invokevirtual 382, 3) := by decide +kernel
theorem dX12_laysStart_28 : decode cX12_laysStart 28 = .ok (.istore_n 2, 1) := by decide +kernel
theorem dX12_laysStart_29 : decode cX12_laysStart 29 = .ok (.iload_n 2, 1) := by decide +kernel
theorem dX12_laysStart_30 : decode cX12_laysStart 30 = .ok (.iconst (-1), 1) := by decide +kernel
theorem dX12_laysStart_31 : decode cX12_laysStart 31 = .ok (.if_icmp .eq 36, 3) := by decide +kernel
theorem dX12_laysStart_34 : decode cX12_laysStart 34 = .ok (.aload_n 0, 1) := by decide +kernel
theorem dX12_laysStart_35 : decode cX12_laysStart 35 = .ok (.getfield 391, 3) := by decide +kernel
theorem dX12_laysStart_38 : decode cX12_laysStart 38 = .ok (.iconst (-1), 1) := by decide +kernel
theorem dX12_laysStart_39 : decode cX12_laysStart 39 = .ok (.if_icmp .eq 16, 3) := by decide +kernel
theorem dX12_laysStart_42 : decode cX12_laysStart 42 = .ok (.iload_n 2, 1) := by decide +kernel
theorem dX12_laysStart_43 : decode cX12_laysStart 43 = .ok (.iload_n 1, 1) := by decide +kernel
theorem dX12_laysStart_44 : decode cX12_laysStart 44 = .ok (.isub, 1) := by decide +kernel
theorem dX12_laysStart_45 : decode cX12_laysStart 45 = .ok (.aload_n 0, 1) := by decide +kernel
theorem dX12_laysStart_46 : decode cX12_laysStart 46 = .ok (.getfield 394, 3) := by decide +kernel
theorem dX12_laysStart_49 : decode cX12_laysStart 49 = .ok (.if_icmp .lt 6, 3) := by decide +kernel
theorem dX12_laysStart_52 : decode cX12_laysStart 52 = .ok (.goto 15, 3) := by decide +kernel
theorem dX12_laysStart_55 : decode cX12_laysStart 55 = .ok (.aload_n 0, 1) := by decide +kernel
theorem dX12_laysStart_56 : decode cX12_laysStart 56 = .ok (.iload_n 1, 1) := by decide +kernel
theorem dX12_laysStart_57 : decode cX12_laysStart 57 = .ok (.putfield 391, 3) := by decide +kernel
theorem dX12_laysStart_60 : decode cX12_laysStart 60 = .ok (.aload_n 0, 1) := by decide +kernel
theorem dX12_laysStart_61 : decode cX12_laysStart 61 = .ok (.iload_n 2, 1) := by decide +kernel
theorem dX12_laysStart_62 : decode cX12_laysStart 62 = .ok (.iload_n 1, 1) := by decide +kernel
theorem dX12_laysStart_63 : decode cX12_laysStart 63 = .ok (.isub, 1) := by decide +kernel
theorem dX12_laysStart_64 : decode cX12_laysStart 64 = .ok (.putfield 394, 3) := by decide +kernel
theorem dX12_laysStart_67 : decode cX12_laysStart 67 = .ok (.iinc 1 1, 3) := by decide +kernel
theorem dX12_laysStart_70 : decode cX12_laysStart 70 = .ok (.goto (-58), 3) := by decide +kernel
theorem dX12_laysStart_73 : decode cX12_laysStart 73 = .ok (.return_, 1) := by decide +kernel
theorem dX12_start_0 : decode cX12_start 0 = .ok (.aload_n 0, 1) := by decide +kernel
theorem dX12_start_1 : decode cX12_start 1 = .ok (.iconst 0, 1) := by decide +kernel
theorem dX12_start_2 : decode cX12_start 2 = .ok (.putfield 89, 3) := by decide +kernel
theorem dX12_start_5 : decode cX12_start 5 = .ok (.aload_n 0, 1) := by decide +kernel
theorem dX12_start_6 : decode cX12_start 6 = .ok (.invokevirtual 267, 3) := by decide +kernel
theorem dX12_start_9 : decode cX12_start 9 = .ok (.ifCond .eq 13, 3) := by decide +kernel
theorem dX12_start_12 : decode cX12_start 12 = .ok (.iload_n 1, 1) := by decide +kernel
theorem dX12_start_13 : decode cX12_start 13 = .ok (.i2l, 1) := by decide +kernel
theorem dX12_start_14 : decode cX12_start 14 = .ok (.lconst 0, 1) := by decide +kernel
theorem dX12_start_15 : decode cX12_start 15 = .ok (.lconst 1, 1) := by decide +kernel
theorem dX12_start_16 : decode cX12_start 16 = .ok (.invokestatic 94, 3) := by decide +kernel
theorem dX12_start_19 : decode cX12_start 19 = .ok (.ifCond .ne 6, 3) := by decide +kernel
theorem dX12_start_22 : decode cX12_start 22 = .ok (.bipush (-2), 2) := by decide +kernel
theorem dX12_start_24 : decode cX12_start 24 = .ok (.ireturn, 1) := by decide +kernel
theorem dX12_start_25 : decode cX12_start 25 = .ok (.aload_n 0, 1) := by decide +kernel
theorem dX12_start_26 : decode cX12_start 26 = .ok (.invokevirtual 397, 3) := by decide +kernel
theorem dX12_start_29 : decode cX12_start 29 = .ok (.aload_n 0, 1) := by decide +kernel
theorem dX12_start_30 : decode cX12_start 30 = .ok (.getfield 391, 3) := by decide +kernel
theorem dX12_start_33 : decode cX12_start 33 = .ok (.iconst (-1), 1) := by decide +kernel
theorem dX12_start_34 : decode cX12_start 34 = .ok (.if_icmp .ne 7, 3) := by decide +kernel
theorem dX12_start_37 : decode cX12_start 37 = .ok (.iconst (-1), 1) := by decide +kernel
theorem dX12_start_38 : decode cX12_start 38 = .ok (.goto 18, 3) := by decide +kernel
theorem dX12_start_41 : decode cX12_start 41 = .ok (.iload_n 1, 1) := by decide +kernel
theorem dX12_start_42 : decode cX12_start 42 = .ok (.ifCond .ne 10, 3) := by decide +kernel
theorem dX12_start_45 : decode cX12_start 45 = .ok (.aload_n 0, 1) := by decide +kernel
theorem dX12_start_46 : decode cX12_start 46 = .ok (.getfield 391, 3) := by decide +kernel
theorem dX12_start_49 : decode cX12_start 49 = .ok (.goto 7, 3) := by decide +kernel
theorem dX12_start_52 : decode cX12_start 52 = .ok (.aload_n 0, 1) := by decide +kernel
theorem dX12_start_53 : decode cX12_start 53 = .ok (.getfield 394, 3) := by decide +kernel
theorem dX12_start_56 : decode cX12_start 56 = .ok (.ireturn, 1) := by decide +kernel
theorem dX12_forgedOf_0 : decode cX12_forgedOf 0 = .ok (.aload_n 0, 1) := by decide +kernel
theorem dX12_forgedOf_1 : decode cX12_forgedOf 1 = .ok (.iconst 0, 1) := by decide +kernel
theorem dX12_forgedOf_2 : decode cX12_forgedOf 2 = .ok (.invokevirtual 385, 3) := by decide +kernel
theorem dX12_forgedOf_5 : decode cX12_forgedOf 5 = .ok (.istore_n 2, 1) := by decide +kernel
theorem dX12_forgedOf_6 : decode cX12_forgedOf 6 = .ok (.aload_n 0, 1) := by decide +kernel
theorem dX12_forgedOf_7 : decode cX12_forgedOf 7 = .ok (.invokevirtual 334, 3) := by decide +kernel
theorem dX12_forgedOf_10 : decode cX12_forgedOf 10 = .ok (.aload_n 0, 1) := by decide +kernel
theorem dX12_forgedOf_11 : decode cX12_forgedOf 11 = .ok (.getfield 59, 3) := by decide +kernel
theorem dX12_forgedOf_14 : decode cX12_forgedOf 14 = .ok (.iload_n 1, 1) := by decide +kernel
theorem dX12_forgedOf_15 : decode cX12_forgedOf 15 = .ok (.sipush 9999, 3) := by decide +kernel
theorem dX12_forgedOf_18 : decode cX12_forgedOf 18 = .ok (.iastore, 1) := by decide +kernel
theorem dX12_forgedOf_19 : decode cX12_forgedOf 19 = .ok (.aload_n 0, 1) := by decide +kernel
theorem dX12_forgedOf_20 : decode cX12_forgedOf 20 = .ok (.iconst 0, 1) := by decide +kernel
theorem dX12_forgedOf_21 : decode cX12_forgedOf 21 = .ok (.invokevirtual 382, 3) := by decide +kernel
theorem dX12_forgedOf_24 : decode cX12_forgedOf 24 = .ok (.istore_n 3, 1) := by decide +kernel
theorem dX12_forgedOf_25 : decode cX12_forgedOf 25 = .ok (.iload_n 2, 1) := by decide +kernel
theorem dX12_forgedOf_26 : decode cX12_forgedOf 26 = .ok (.iconst (-1), 1) := by decide +kernel
theorem dX12_forgedOf_27 : decode cX12_forgedOf 27 = .ok (.if_icmp .eq 8, 3) := by decide +kernel
theorem dX12_forgedOf_30 : decode cX12_forgedOf 30 = .ok (.iload_n 3, 1) := by decide +kernel
theorem dX12_forgedOf_31 : decode cX12_forgedOf 31 = .ok (.iconst (-1), 1) := by decide +kernel
theorem dX12_forgedOf_32 : decode cX12_forgedOf 32 = .ok (.if_icmp .ne 9, 3) := by decide +kernel
theorem dX12_forgedOf_35 : decode cX12_forgedOf 35 = .ok (.sipush (-1000), 3) := by decide +kernel
theorem dX12_forgedOf_38 : decode cX12_forgedOf 38 = .ok (.goto 6, 3) := by decide +kernel
theorem dX12_forgedOf_41 : decode cX12_forgedOf 41 = .ok (.iload_n 2, 1) := by decide +kernel
theorem dX12_forgedOf_42 : decode cX12_forgedOf 42 = .ok (.iload_n 3, 1) := by decide +kernel
theorem dX12_forgedOf_43 : decode cX12_forgedOf 43 = .ok (.isub, 1) := by decide +kernel
theorem dX12_forgedOf_44 : decode cX12_forgedOf 44 = .ok (.ireturn, 1) := by decide +kernel
theorem dX12_forged_0 : decode cX12_forged 0 = .ok (.aload_n 0, 1) := by decide +kernel
theorem dX12_forged_1 : decode cX12_forged 1 = .ok (.iconst 0, 1) := by decide +kernel
theorem dX12_forged_2 : decode cX12_forged 2 = .ok (.putfield 89, 3) := by decide +kernel
theorem dX12_forged_5 : decode cX12_forged 5 = .ok (.aload_n 0, 1) := by decide +kernel
theorem dX12_forged_6 : decode cX12_forged 6 = .ok (.iload_n 1, 1) := by decide +kernel
theorem dX12_forged_7 : decode cX12_forged 7 = .ok (.i2l, 1) := by decide +kernel
theorem dX12_forged_8 : decode cX12_forged 8 = .ok (.invokevirtual 270, 3) := by decide +kernel
theorem dX12_forged_11 : decode cX12_forged 11 = .ok (.ifCond .eq 11, 3) := by decide +kernel
theorem dX12_forged_14 : decode cX12_forged 14 = .ok (.aload_n 0, 1) := by decide +kernel
theorem dX12_forged_15 : decode cX12_forged 15 = .ok (.iload_n 1, 1) := by decide +kernel
theorem dX12_forged_16 : decode cX12_forged 16 = .ok (.invokevirtual 400, 3) := by decide +kernel
theorem dX12_forged_19 : decode cX12_forged 19 = .ok (.goto 6, 3) := by decide +kernel
theorem dX12_forged_22 : decode cX12_forged 22 = .ok (.sipush (-2000), 3) := by decide +kernel
theorem dX12_forged_25 : decode cX12_forged 25 = .ok (.ireturn, 1) := by decide +kernel
theorem dX12_fake_0 : decode cX12_fake 0 = .ok (.aload_n 0, 1) := by decide +kernel
theorem dX12_fake_1 : decode cX12_fake 1 = .ok (.iconst 0, 1) := by decide +kernel
theorem dX12_fake_2 : decode cX12_fake 2 = .ok (.putfield 89, 3) := by decide +kernel
theorem dX12_fake_5 : decode cX12_fake 5 = .ok (.aload_n 0, 1) := by decide +kernel
theorem dX12_fake_6 : decode cX12_fake 6 = .ok (.invokevirtual 267, 3) := by decide +kernel
theorem dX12_fake_9 : decode cX12_fake 9 = .ok (.ifCond .ne 6, 3) := by decide +kernel
theorem dX12_fake_12 : decode cX12_fake 12 = .ok (.bipush (-2), 2) := by decide +kernel
theorem dX12_fake_14 : decode cX12_fake 14 = .ok (.ireturn, 1) := by decide +kernel
theorem dX12_fake_15 : decode cX12_fake 15 = .ok (.iconst (-1), 1) := by decide +kernel
theorem dX12_fake_16 : decode cX12_fake 16 = .ok (.istore_n 1, 1) := by decide +kernel
theorem dX12_fake_17 : decode cX12_fake 17 = .ok (.iconst 0, 1) := by decide +kernel
theorem dX12_fake_18 : decode cX12_fake 18 = .ok (.istore_n 2, 1) := by decide +kernel
theorem dX12_fake_19 : decode cX12_fake 19 = .ok (.iconst 0, 1) := by decide +kernel
theorem dX12_fake_20 : decode cX12_fake 20 = .ok (.istore_n 3, 1) := by decide +kernel
theorem dX12_fake_21 : decode cX12_fake 21 = .ok (.iload_n 3, 1) := by decide +kernel
theorem dX12_fake_22 : decode cX12_fake 22 = .ok (.aload_n 0, 1) := by decide +kernel
theorem dX12_fake_23 : decode cX12_fake 23 = .ok (.getfield 34, 3) := by decide +kernel
theorem dX12_fake_26 : decode cX12_fake 26 = .ok (.iconst 3, 1) := by decide +kernel
theorem dX12_fake_27 : decode cX12_fake 27 = .ok (.iaload, 1) := by decide +kernel
theorem dX12_fake_28 : decode cX12_fake 28 = .ok (.if_icmp .ge 30, 3) := by decide +kernel
theorem dX12_fake_31 : decode cX12_fake 31 = .ok (.aload_n 0, 1) := by decide +kernel
theorem dX12_fake_32 : decode cX12_fake 32 = .ok (.iload_n 3, 1) := by decide +kernel
theorem dX12_fake_33 : decode cX12_fake 33 = .ok (.invokevirtual 400, 3) := by decide +kernel
theorem dX12_fake_36 : decode cX12_fake 36 = .ok (.istore 4, 2) := by decide +kernel
theorem dX12_fake_38 : decode cX12_fake 38 = .ok (.iload 4, 2) := by decide +kernel
theorem dX12_fake_40 : decode cX12_fake 40 = .ok (.iload_n 2, 1) := by decide +kernel
theorem dX12_fake_41 : decode cX12_fake 41 = .ok (.if_icmp .gt 6, 3) := by decide +kernel
theorem dX12_fake_44 : decode cX12_fake 44 = .ok (.goto 8, 3) := by decide +kernel
theorem dX12_fake_47 : decode cX12_fake 47 = .ok (.iload_n 3, 1) := by decide +kernel
theorem dX12_fake_48 : decode cX12_fake 48 = .ok (.istore_n 1, 1) := by decide +kernel
theorem dX12_fake_49 : decode cX12_fake 49 = .ok (.iload 4, 2) := by decide +kernel
theorem dX12_fake_51 : decode cX12_fake 51 = .ok (.istore_n 2, 1) := by decide +kernel
theorem dX12_fake_52 : decode cX12_fake 52 = .ok (.iinc 3 1, 3) := by decide +kernel
theorem dX12_fake_55 : decode cX12_fake 55 = .ok (.goto (-34), 3) := by decide +kernel
theorem dX12_fake_58 : decode cX12_fake 58 = .ok (.iload_n 1, 1) := by decide +kernel
theorem dX12_fake_59 : decode cX12_fake 59 = .ok (.ireturn, 1) := by decide +kernel
theorem dX12_mayStamp_0 : decode cX12_mayStamp 0 = .ok (.aload_n 0, 1) := by decide +kernel
theorem dX12_mayStamp_1 : decode cX12_mayStamp 1 = .ok (.getfield 40, 3) := by decide +kernel
theorem dX12_mayStamp_4 : decode cX12_mayStamp 4 = .ok (.iload_n 1, 1) := by decide +kernel
theorem dX12_mayStamp_5 : decode cX12_mayStamp 5 = .ok (.iaload, 1) := by decide +kernel
theorem dX12_mayStamp_6 : decode cX12_mayStamp 6 = .ok (.iload_n 2, 1) := by decide +kernel
theorem dX12_mayStamp_7 : decode cX12_mayStamp 7 = .ok (.iconst (-1), 1) := by decide +kernel
theorem dX12_mayStamp_8 : decode cX12_mayStamp 8 = .ok (.ixor, 1) := by decide +kernel
theorem dX12_mayStamp_9 : decode cX12_mayStamp 9 = .ok (.iand, 1) := by decide +kernel
theorem dX12_mayStamp_10 : decode cX12_mayStamp 10 = .ok (.ifCond .ne 18, 3) := by decide +kernel
theorem dX12_mayStamp_13 : decode cX12_mayStamp 13 = .ok (.aload_n 0, 1) := by decide +kernel
theorem dX12_mayStamp_14 : decode cX12_mayStamp 14 = .ok (.getfield 43, 3) := by decide +kernel
theorem dX12_mayStamp_17 : decode cX12_mayStamp 17 = .ok (.iload_n 1, 1) := by decide +kernel
theorem dX12_mayStamp_18 : decode cX12_mayStamp 18 = .ok (.iaload, 1) := by decide +kernel
theorem dX12_mayStamp_19 : decode cX12_mayStamp 19 = .ok (.iload_n 2, 1) := by decide +kernel
theorem dX12_mayStamp_20 : decode cX12_mayStamp 20 = .ok (.iand, 1) := by decide +kernel
theorem dX12_mayStamp_21 : decode cX12_mayStamp 21 = .ok (.ifCond .ne 7, 3) := by decide +kernel
theorem dX12_mayStamp_24 : decode cX12_mayStamp 24 = .ok (.iconst 1, 1) := by decide +kernel
theorem dX12_mayStamp_25 : decode cX12_mayStamp 25 = .ok (.goto 4, 3) := by decide +kernel
theorem dX12_mayStamp_28 : decode cX12_mayStamp 28 = .ok (.iconst 0, 1) := by decide +kernel
theorem dX12_mayStamp_29 : decode cX12_mayStamp 29 = .ok (.ireturn, 1) := by decide +kernel
theorem dX12_sets0_0 : decode cX12_sets0 0 = .ok (.iconst 1, 1) := by decide +kernel
theorem dX12_sets0_1 : decode cX12_sets0 1 = .ok (.aload_n 0, 1) := by decide +kernel
theorem dX12_sets0_2 : decode cX12_sets0 2 = .ok (.getfield 34, 3) := by decide +kernel
theorem dX12_sets0_5 : decode cX12_sets0 5 = .ok (.iconst 3, 1) := by decide +kernel
theorem dX12_sets0_6 : decode cX12_sets0 6 = .ok (.iaload, 1) := by decide +kernel
theorem dX12_sets0_7 : decode cX12_sets0 7 = .ok (.ishl, 1) := by decide +kernel
theorem dX12_sets0_8 : decode cX12_sets0 8 = .ok (.ireturn, 1) := by decide +kernel
theorem dX12_laysSets_0 : decode cX12_laysSets 0 = .ok (.iconst 0, 1) := by decide +kernel
theorem dX12_laysSets_1 : decode cX12_laysSets 1 = .ok (.istore_n 1, 1) := by decide +kernel
theorem dX12_laysSets_2 : decode cX12_laysSets 2 = .ok (.iload_n 1, 1) := by decide +kernel
theorem dX12_laysSets_3 : decode cX12_laysSets 3 = .ok (.aload_n 0, 1) := by decide +kernel
theorem dX12_laysSets_4 : decode cX12_laysSets 4 = .ok (.invokevirtual 403, 3) := by decide +kernel
theorem dX12_laysSets_7 : decode cX12_laysSets 7 = .ok (.if_icmp .ge 86, 3) := by decide +kernel
theorem dX12_laysSets_10 : decode cX12_laysSets 10 = .ok (.aload_n 0, 1) := by decide +kernel
theorem dX12_laysSets_11 : decode cX12_laysSets 11 = .ok (.getfield 74, 3) := by decide +kernel
theorem dX12_laysSets_14 : decode cX12_laysSets 14 = .ok (.iload_n 1, 1) := by decide +kernel
theorem dX12_laysSets_15 : decode cX12_laysSets 15 = .ok (.iload_n 1, 1) := by decide +kernel
theorem dX12_laysSets_16 : decode cX12_laysSets 16 = .ok (.ifCond .ne 7, 3) := by decide +kernel
theorem dX12_laysSets_19 : decode cX12_laysSets 19 = .ok (.lconst 1, 1) := by decide +kernel
theorem dX12_laysSets_20 : decode cX12_laysSets 20 = .ok (.goto 4, 3) := by decide +kernel
theorem dX12_laysSets_23 : decode cX12_laysSets 23 = .ok (.lconst 0, 1) := by decide +kernel
theorem dX12_laysSets_24 : decode cX12_laysSets 24 = .ok (.lastore, 1) := by decide +kernel
theorem dX12_laysSets_25 : decode cX12_laysSets 25 = .ok (.iconst 0, 1) := by decide +kernel
theorem dX12_laysSets_26 : decode cX12_laysSets 26 = .ok (.istore_n 2, 1) := by decide +kernel
theorem dX12_laysSets_27 : decode cX12_laysSets 27 = .ok (.iload_n 2, 1) := by decide +kernel
theorem dX12_laysSets_28 : decode cX12_laysSets 28 = .ok (.aload_n 0, 1) := by decide +kernel
theorem dX12_laysSets_29 : decode cX12_laysSets 29 = .ok (.getfield 34, 3) := by decide +kernel
theorem dX12_laysSets_32 : decode cX12_laysSets 32 = .ok (.iconst 3, 1) := by decide +kernel
theorem dX12_laysSets_33 : decode cX12_laysSets 33 = .ok (.iaload, 1) := by decide +kernel
theorem dX12_laysSets_34 : decode cX12_laysSets 34 = .ok (.if_icmp .ge 53, 3) := by decide +kernel
theorem dX12_laysSets_37 : decode cX12_laysSets 37 = .ok (.iload_n 1, 1) := by decide +kernel
theorem dX12_laysSets_38 : decode cX12_laysSets 38 = .ok (.iload_n 2, 1) := by decide +kernel
theorem dX12_laysSets_39 : decode cX12_laysSets 39 = .ok (.invokestatic 278, 3) := by decide +kernel
theorem dX12_laysSets_42 : decode cX12_laysSets 42 = .ok (.ifCond .eq 39, 3) := by decide +kernel
theorem dX12_laysSets_45 : decode cX12_laysSets 45 = .ok (.aload_n 0, 1) := by decide +kernel
theorem dX12_laysSets_46 : decode cX12_laysSets 46 = .ok (.iload_n 2, 1) := by decide +kernel
theorem dX12_laysSets_47 : decode cX12_laysSets 47 = .ok (.iload_n 1, 1) := by decide +kernel
theorem dX12_laysSets_48 : decode cX12_laysSets 48 = .ok (.iconst 1, 1) := by decide +kernel
theorem dX12_laysSets_49 : decode cX12_laysSets 49 = .ok (.iload_n 2, 1) := by decide +kernel
theorem dX12_laysSets_50 : decode cX12_laysSets 50 = .ok (.ishl, 1) := by decide +kernel
theorem dX12_laysSets_51 : decode cX12_laysSets 51 = .ok (.iconst (-1), 1) := by decide +kernel
theorem dX12_laysSets_52 : decode cX12_laysSets 52 = .ok (.ixor, 1) := by decide +kernel
theorem dX12_laysSets_53 : decode cX12_laysSets 53 = .ok (.iand, 1) := by decide +kernel
theorem dX12_laysSets_54 : decode cX12_laysSets 54 = .ok (.invokevirtual 406, 3) := by decide +kernel
theorem dX12_laysSets_57 : decode cX12_laysSets 57 = .ok (.ifCond .eq 24, 3) := by decide +kernel
theorem dX12_laysSets_60 : decode cX12_laysSets 60 = .ok (.aload_n 0, 1) := by decide +kernel
theorem dX12_laysSets_61 : decode cX12_laysSets 61 = .ok (.getfield 74, 3) := by decide +kernel
theorem dX12_laysSets_64 : decode cX12_laysSets 64 = .ok (.iload_n 1, 1) := by decide +kernel
theorem dX12_laysSets_65 : decode cX12_laysSets 65 = .ok (.dup2, 1) := by decide +kernel
theorem dX12_laysSets_66 : decode cX12_laysSets 66 = .ok (.laload, 1) := by decide +kernel
theorem dX12_laysSets_67 : decode cX12_laysSets 67 = .ok (.aload_n 0, 1) := by decide +kernel
theorem dX12_laysSets_68 : decode cX12_laysSets 68 = .ok (.getfield 74, 3) := by decide +kernel
theorem dX12_laysSets_71 : decode cX12_laysSets 71 = .ok (.iload_n 1, 1) := by decide +kernel
theorem dX12_laysSets_72 : decode cX12_laysSets 72 = .ok (.iconst 1, 1) := by decide +kernel
theorem dX12_laysSets_73 : decode cX12_laysSets 73 = .ok (.iload_n 2, 1) := by decide +kernel
theorem dX12_laysSets_74 : decode cX12_laysSets 74 = .ok (.ishl, 1) := by decide +kernel
theorem dX12_laysSets_75 : decode cX12_laysSets 75 = .ok (.iconst (-1), 1) := by decide +kernel
theorem dX12_laysSets_76 : decode cX12_laysSets 76 = .ok (.ixor, 1) := by decide +kernel
theorem dX12_laysSets_77 : decode cX12_laysSets 77 = .ok (.iand, 1) := by decide +kernel
theorem dX12_laysSets_78 : decode cX12_laysSets 78 = .ok (.laload, 1) := by decide +kernel
theorem dX12_laysSets_79 : decode cX12_laysSets 79 = .ok (.ladd, 1) := by decide +kernel
theorem dX12_laysSets_80 : decode cX12_laysSets 80 = .ok (.lastore, 1) := by decide +kernel
theorem dX12_laysSets_81 : decode cX12_laysSets 81 = .ok (.iinc 2 1, 3) := by decide +kernel
theorem dX12_laysSets_84 : decode cX12_laysSets 84 = .ok (.goto (-57), 3) := by decide +kernel
theorem dX12_laysSets_87 : decode cX12_laysSets 87 = .ok (.iinc 1 1, 3) := by decide +kernel
theorem dX12_laysSets_90 : decode cX12_laysSets 90 = .ok (.goto (-88), 3) := by decide +kernel
theorem dX12_laysSets_93 : decode cX12_laysSets 93 = .ok (.return_, 1) := by decide +kernel
theorem dX12_possible_0 : decode cX12_possible 0 = .ok (.aload_n 0, 1) := by decide +kernel
theorem dX12_possible_1 : decode cX12_possible 1 = .ok (.iconst 0, 1) := by decide +kernel
theorem dX12_possible_2 : decode cX12_possible 2 = .ok (.putfield 89, 3) := by decide +kernel
theorem dX12_possible_5 : decode cX12_possible 5 = .ok (.aload_n 0, 1) := by decide +kernel
theorem dX12_possible_6 : decode cX12_possible 6 = .ok (.iload_n 1, 1) := by decide +kernel
theorem dX12_possible_7 : decode cX12_possible 7 = .ok (.invokevirtual 409, 3) := by decide +kernel
theorem dX12_possible_10 : decode cX12_possible 10 = .ok (.ifCond .ne 6, 3) := by decide +kernel
theorem dX12_possible_13 : decode cX12_possible 13 = .ok (.bipush (-2), 2) := by decide +kernel
theorem dX12_possible_15 : decode cX12_possible 15 = .ok (.ireturn, 1) := by decide +kernel
theorem dX12_possible_16 : decode cX12_possible 16 = .ok (.aload_n 0, 1) := by decide +kernel
theorem dX12_possible_17 : decode cX12_possible 17 = .ok (.invokevirtual 412, 3) := by decide +kernel
theorem dX12_possible_20 : decode cX12_possible 20 = .ok (.aload_n 0, 1) := by decide +kernel
theorem dX12_possible_21 : decode cX12_possible 21 = .ok (.getfield 74, 3) := by decide +kernel
theorem dX12_possible_24 : decode cX12_possible 24 = .ok (.iload_n 1, 1) := by decide +kernel
theorem dX12_possible_25 : decode cX12_possible 25 = .ok (.laload, 1) := by decide +kernel
theorem dX12_possible_26 : decode cX12_possible 26 = .ok (.lconst 0, 1) := by decide +kernel
theorem dX12_possible_27 : decode cX12_possible 27 = .ok (.lcmp, 1) := by decide +kernel
theorem dX12_possible_28 : decode cX12_possible 28 = .ok (.ifCond .le 7, 3) := by decide +kernel
theorem dX12_possible_31 : decode cX12_possible 31 = .ok (.iconst 1, 1) := by decide +kernel
theorem dX12_possible_32 : decode cX12_possible 32 = .ok (.goto 4, 3) := by decide +kernel
theorem dX12_possible_35 : decode cX12_possible 35 = .ok (.iconst 0, 1) := by decide +kernel
theorem dX12_possible_36 : decode cX12_possible 36 = .ok (.ireturn, 1) := by decide +kernel
theorem dX12_sets_0 : decode cX12_sets 0 = .ok (.aload_n 0, 1) := by decide +kernel
theorem dX12_sets_1 : decode cX12_sets 1 = .ok (.iconst 0, 1) := by decide +kernel
theorem dX12_sets_2 : decode cX12_sets 2 = .ok (.putfield 89, 3) := by decide +kernel
theorem dX12_sets_5 : decode cX12_sets 5 = .ok (.aload_n 0, 1) := by decide +kernel
theorem dX12_sets_6 : decode cX12_sets 6 = .ok (.invokevirtual 267, 3) := by decide +kernel
theorem dX12_sets_9 : decode cX12_sets 9 = .ok (.ifCond .ne 6, 3) := by decide +kernel
theorem dX12_sets_12 : decode cX12_sets 12 = .ok (.bipush (-2), 2) := by decide +kernel
theorem dX12_sets_14 : decode cX12_sets 14 = .ok (.ireturn, 1) := by decide +kernel
theorem dX12_sets_15 : decode cX12_sets 15 = .ok (.aload_n 0, 1) := by decide +kernel
theorem dX12_sets_16 : decode cX12_sets 16 = .ok (.invokevirtual 412, 3) := by decide +kernel
theorem dX12_sets_19 : decode cX12_sets 19 = .ok (.iconst 0, 1) := by decide +kernel
theorem dX12_sets_20 : decode cX12_sets 20 = .ok (.istore_n 1, 1) := by decide +kernel
theorem dX12_sets_21 : decode cX12_sets 21 = .ok (.iconst 0, 1) := by decide +kernel
theorem dX12_sets_22 : decode cX12_sets 22 = .ok (.istore_n 2, 1) := by decide +kernel
theorem dX12_sets_23 : decode cX12_sets 23 = .ok (.iload_n 2, 1) := by decide +kernel
theorem dX12_sets_24 : decode cX12_sets 24 = .ok (.aload_n 0, 1) := by decide +kernel
theorem dX12_sets_25 : decode cX12_sets 25 = .ok (.invokevirtual 403, 3) := by decide +kernel
theorem dX12_sets_28 : decode cX12_sets 28 = .ok (.if_icmp .ge 28, 3) := by decide +kernel
theorem dX12_sets_31 : decode cX12_sets 31 = .ok (.iload_n 1, 1) := by decide +kernel
theorem dX12_sets_32 : decode cX12_sets 32 = .ok (.aload_n 0, 1) := by decide +kernel
theorem dX12_sets_33 : decode cX12_sets 33 = .ok (.getfield 74, 3) := by decide +kernel
theorem dX12_sets_36 : decode cX12_sets 36 = .ok (.iload_n 2, 1) := by decide +kernel
theorem dX12_sets_37 : decode cX12_sets 37 = .ok (.laload, 1) := by decide +kernel
theorem dX12_sets_38 : decode cX12_sets 38 = .ok (.lconst 0, 1) := by decide +kernel
theorem dX12_sets_39 : decode cX12_sets 39 = .ok (.lcmp, 1) := by decide +kernel
theorem dX12_sets_40 : decode cX12_sets 40 = .ok (.ifCond .le 7, 3) := by decide +kernel
theorem dX12_sets_43 : decode cX12_sets 43 = .ok (.iconst 1, 1) := by decide +kernel
theorem dX12_sets_44 : decode cX12_sets 44 = .ok (.goto 4, 3) := by decide +kernel
theorem dX12_sets_47 : decode cX12_sets 47 = .ok (.iconst 0, 1) := by decide +kernel
theorem dX12_sets_48 : decode cX12_sets 48 = .ok (.iadd, 1) := by decide +kernel
theorem dX12_sets_49 : decode cX12_sets 49 = .ok (.istore_n 1, 1) := by decide +kernel
theorem dX12_sets_50 : decode cX12_sets 50 = .ok (.iinc 2 1, 3) := by decide +kernel
theorem dX12_sets_53 : decode cX12_sets 53 = .ok (.goto (-30), 3) := by decide +kernel
theorem dX12_sets_56 : decode cX12_sets 56 = .ok (.iload_n 1, 1) := by decide +kernel
theorem dX12_sets_57 : decode cX12_sets 57 = .ok (.ireturn, 1) := by decide +kernel
theorem dX12_never_0 : decode cX12_never 0 = .ok (.aload_n 0, 1) := by decide +kernel
theorem dX12_never_1 : decode cX12_never 1 = .ok (.iconst 0, 1) := by decide +kernel
theorem dX12_never_2 : decode cX12_never 2 = .ok (.putfield 89, 3) := by decide +kernel
theorem dX12_never_5 : decode cX12_never 5 = .ok (.aload_n 0, 1) := by decide +kernel
theorem dX12_never_6 : decode cX12_never 6 = .ok (.invokevirtual 267, 3) := by decide +kernel
theorem dX12_never_9 : decode cX12_never 9 = .ok (.ifCond .ne 6, 3) := by decide +kernel
theorem dX12_never_12 : decode cX12_never 12 = .ok (.bipush (-2), 2) := by decide +kernel
theorem dX12_never_14 : decode cX12_never 14 = .ok (.ireturn, 1) := by decide +kernel
theorem dX12_never_15 : decode cX12_never 15 = .ok (.aload_n 0, 1) := by decide +kernel
theorem dX12_never_16 : decode cX12_never 16 = .ok (.invokevirtual 412, 3) := by decide +kernel
theorem dX12_never_19 : decode cX12_never 19 = .ok (.iconst 0, 1) := by decide +kernel
theorem dX12_never_20 : decode cX12_never 20 = .ok (.istore_n 1, 1) := by decide +kernel
theorem dX12_never_21 : decode cX12_never 21 = .ok (.iconst 0, 1) := by decide +kernel
theorem dX12_never_22 : decode cX12_never 22 = .ok (.istore_n 2, 1) := by decide +kernel
theorem dX12_never_23 : decode cX12_never 23 = .ok (.iload_n 2, 1) := by decide +kernel
theorem dX12_never_24 : decode cX12_never 24 = .ok (.aload_n 0, 1) := by decide +kernel
theorem dX12_never_25 : decode cX12_never 25 = .ok (.invokevirtual 403, 3) := by decide +kernel
theorem dX12_never_28 : decode cX12_never 28 = .ok (.if_icmp .ge 28, 3) := by decide +kernel
theorem dX12_never_31 : decode cX12_never 31 = .ok (.iload_n 1, 1) := by decide +kernel
theorem dX12_never_32 : decode cX12_never 32 = .ok (.aload_n 0, 1) := by decide +kernel
theorem dX12_never_33 : decode cX12_never 33 = .ok (.getfield 74, 3) := by decide +kernel
theorem dX12_never_36 : decode cX12_never 36 = .ok (.iload_n 2, 1) := by decide +kernel
theorem dX12_never_37 : decode cX12_never 37 = .ok (.laload, 1) := by decide +kernel
theorem dX12_never_38 : decode cX12_never 38 = .ok (.lconst 0, 1) := by decide +kernel
theorem dX12_never_39 : decode cX12_never 39 = .ok (.lcmp, 1) := by decide +kernel
theorem dX12_never_40 : decode cX12_never 40 = .ok (.ifCond .le 7, 3) := by decide +kernel
theorem dX12_never_43 : decode cX12_never 43 = .ok (.iload_n 2, 1) := by decide +kernel
theorem dX12_never_44 : decode cX12_never 44 = .ok (.goto 4, 3) := by decide +kernel
theorem dX12_never_47 : decode cX12_never 47 = .ok (.iconst 0, 1) := by decide +kernel
theorem dX12_never_48 : decode cX12_never 48 = .ok (.ior, 1) := by decide +kernel
theorem dX12_never_49 : decode cX12_never 49 = .ok (.istore_n 1, 1) := by decide +kernel
theorem dX12_never_50 : decode cX12_never 50 = .ok (.iinc 2 1, 3) := by decide +kernel
theorem dX12_never_53 : decode cX12_never 53 = .ok (.goto (-30), 3) := by decide +kernel
theorem dX12_never_56 : decode cX12_never 56 = .ok (.aload_n 0, 1) := by decide +kernel
theorem dX12_never_57 : decode cX12_never 57 = .ok (.invokevirtual 403, 3) := by decide +kernel
theorem dX12_never_60 : decode cX12_never 60 = .ok (.iconst 1, 1) := by decide +kernel
theorem dX12_never_61 : decode cX12_never 61 = .ok (.isub, 1) := by decide +kernel
theorem dX12_never_62 : decode cX12_never 62 = .ok (.iload_n 1, 1) := by decide +kernel
theorem dX12_never_63 : decode cX12_never 63 = .ok (.iconst (-1), 1) := by decide +kernel
theorem dX12_never_64 : decode cX12_never 64 = .ok (.ixor, 1) := by decide +kernel
theorem dX12_never_65 : decode cX12_never 65 = .ok (.iand, 1) := by decide +kernel
theorem dX12_never_66 : decode cX12_never 66 = .ok (.ireturn, 1) := by decide +kernel
theorem dX12_laysReach_0 : decode cX12_laysReach 0 = .ok (.iconst 0, 1) := by decide +kernel
theorem dX12_laysReach_1 : decode cX12_laysReach 1 = .ok (.istore_n 1, 1) := by decide +kernel
theorem dX12_laysReach_2 : decode cX12_laysReach 2 = .ok (.iload_n 1, 1) := by decide +kernel
theorem dX12_laysReach_3 : decode cX12_laysReach 3 = .ok (.bipush 8, 2) := by decide +kernel
theorem dX12_laysReach_5 : decode cX12_laysReach 5 = .ok (.if_icmp .ge 35, 3) := by decide +kernel
theorem dX12_laysReach_8 : decode cX12_laysReach 8 = .ok (.aload_n 0, 1) := by decide +kernel
theorem dX12_laysReach_9 : decode cX12_laysReach 9 = .ok (.getfield 77, 3) := by decide +kernel
theorem dX12_laysReach_12 : decode cX12_laysReach 12 = .ok (.iload_n 1, 1) := by decide +kernel
theorem dX12_laysReach_13 : decode cX12_laysReach 13 = .ok (.iload_n 1, 1) := by decide +kernel
theorem dX12_laysReach_14 : decode cX12_laysReach 14 = .ok (.aload_n 0, 1) := by decide +kernel
theorem dX12_laysReach_15 : decode cX12_laysReach 15 = .ok (.getfield 34, 3) := by decide +kernel
theorem dX12_laysReach_18 : decode cX12_laysReach 18 = .ok (.iconst 3, 1) := by decide +kernel
theorem dX12_laysReach_19 : decode cX12_laysReach 19 = .ok (.iaload, 1) := by decide +kernel
theorem dX12_laysReach_20 : decode cX12_laysReach 20 = .ok (.if_icmp .ge 12, 3) := by decide +kernel
theorem dX12_laysReach_23 : decode cX12_laysReach 23 = .ok (.aload_n 0, 1) := by decide +kernel
theorem dX12_laysReach_24 : decode cX12_laysReach 24 = .ok (.getfield 40, 3) := by decide +kernel
theorem dX12_laysReach_27 : decode cX12_laysReach 27 = .ok (.iload_n 1, 1) := by decide +kernel
theorem dX12_laysReach_28 : decode cX12_laysReach 28 = .ok (.iaload, 1) := by decide +kernel
theorem dX12_laysReach_29 : decode cX12_laysReach 29 = .ok (.goto 4, 3) := by decide +kernel
theorem dX12_laysReach_32 : decode cX12_laysReach 32 = .ok (.iconst 0, 1) := by decide +kernel
theorem dX12_laysReach_33 : decode cX12_laysReach 33 = .ok (.iastore, 1) := by decide +kernel
theorem dX12_laysReach_34 : decode cX12_laysReach 34 = .ok (.iinc 1 1, 3) := by decide +kernel
theorem dX12_laysReach_37 : decode cX12_laysReach 37 = .ok (.goto (-35), 3) := by decide +kernel
theorem dX12_laysReach_40 : decode cX12_laysReach 40 = .ok (.iconst 0, 1) := by decide +kernel
theorem dX12_laysReach_41 : decode cX12_laysReach 41 = .ok (.istore_n 1, 1) := by decide +kernel
theorem dX12_laysReach_42 : decode cX12_laysReach 42 = .ok (.iload_n 1, 1) := by decide +kernel
theorem dX12_laysReach_43 : decode cX12_laysReach 43 = .ok (.bipush 8, 2) := by decide +kernel
theorem dX12_laysReach_45 : decode cX12_laysReach 45 = .ok (.if_icmp .ge 51, 3) := by decide +kernel
theorem dX12_laysReach_48 : decode cX12_laysReach 48 = .ok (.iconst 0, 1) := by decide +kernel
theorem dX12_laysReach_49 : decode cX12_laysReach 49 = .ok (.istore_n 2, 1) := by decide +kernel
theorem dX12_laysReach_50 : decode cX12_laysReach 50 = .ok (.iload_n 2, 1) := by decide +kernel
theorem dX12_laysReach_51 : decode cX12_laysReach 51 = .ok (.bipush 8, 2) := by decide +kernel
theorem dX12_laysReach_53 : decode cX12_laysReach 53 = .ok (.if_icmp .ge 37, 3) := by decide +kernel
theorem dX12_laysReach_56 : decode cX12_laysReach 56 = .ok (.aload_n 0, 1) := by decide +kernel
theorem dX12_laysReach_57 : decode cX12_laysReach 57 = .ok (.getfield 77, 3) := by decide +kernel
theorem dX12_laysReach_60 : decode cX12_laysReach 60 = .ok (.iload_n 2, 1) := by decide +kernel
theorem dX12_laysReach_61 : decode cX12_laysReach 61 = .ok (.iaload, 1) := by decide +kernel
theorem dX12_laysReach_62 : decode cX12_laysReach 62 = .ok (.iload_n 1, 1) := by decide +kernel
theorem dX12_laysReach_63 : decode cX12_laysReach 63 = .ok (.invokestatic 278, 3) := by decide +kernel
theorem dX12_laysReach_66 : decode cX12_laysReach 66 = .ok (.ifCond .eq 18, 3) := by decide +kernel
theorem dX12_laysReach_69 : decode cX12_laysReach 69 = .ok (.aload_n 0, 1) := by decide +kernel
theorem dX12_laysReach_70 : decode cX12_laysReach 70 = .ok (.getfield 77, 3) := by decide +kernel
theorem dX12_laysReach_73 : decode cX12_laysReach 73 = .ok (.iload_n 2, 1) := by decide +kernel
theorem dX12_laysReach_74 : decode cX12_laysReach 74 = .ok (.dup2, 1) := by decide +kernel
theorem dX12_laysReach_75 : decode cX12_laysReach 75 = .ok (.iaload, 1) := by decide +kernel
theorem dX12_laysReach_76 : decode cX12_laysReach 76 = .ok (.aload_n 0, 1) := by decide +kernel
theorem dX12_laysReach_77 : decode cX12_laysReach 77 = .ok (.getfield 77, 3) := by decide +kernel
theorem dX12_laysReach_80 : decode cX12_laysReach 80 = .ok (.iload_n 1, 1) := by decide +kernel
theorem dX12_laysReach_81 : decode cX12_laysReach 81 = .ok (.iaload, 1) := by decide +kernel
theorem dX12_laysReach_82 : decode cX12_laysReach 82 = .ok (.ior, 1) := by decide +kernel
theorem dX12_laysReach_83 : decode cX12_laysReach 83 = .ok (.iastore, 1) := by decide +kernel
theorem dX12_laysReach_84 : decode cX12_laysReach 84 = .ok (.iinc 2 1, 3) := by decide +kernel
theorem dX12_laysReach_87 : decode cX12_laysReach 87 = .ok (.goto (-37), 3) := by decide +kernel
theorem dX12_laysReach_90 : decode cX12_laysReach 90 = .ok (.iinc 1 1, 3) := by decide +kernel
theorem dX12_laysReach_93 : decode cX12_laysReach 93 = .ok (.goto (-51), 3) := by decide +kernel
theorem dX12_laysReach_96 : decode cX12_laysReach 96 = .ok (.return_, 1) := by decide +kernel
theorem dX12_ringNow_0 : decode cX12_ringNow 0 = .ok (.aload_n 0, 1) := by decide +kernel
theorem dX12_ringNow_1 : decode cX12_ringNow 1 = .ok (.invokevirtual 415, 3) := by decide +kernel
theorem dX12_ringNow_4 : decode cX12_ringNow 4 = .ok (.iconst 0, 1) := by decide +kernel
theorem dX12_ringNow_5 : decode cX12_ringNow 5 = .ok (.istore_n 1, 1) := by decide +kernel
theorem dX12_ringNow_6 : decode cX12_ringNow 6 = .ok (.iconst 0, 1) := by decide +kernel
theorem dX12_ringNow_7 : decode cX12_ringNow 7 = .ok (.istore_n 2, 1) := by decide +kernel
theorem dX12_ringNow_8 : decode cX12_ringNow 8 = .ok (.iload_n 2, 1) := by decide +kernel
theorem dX12_ringNow_9 : decode cX12_ringNow 9 = .ok (.aload_n 0, 1) := by decide +kernel
theorem dX12_ringNow_10 : decode cX12_ringNow 10 = .ok (.getfield 34, 3) := by decide +kernel
theorem dX12_ringNow_13 : decode cX12_ringNow 13 = .ok (.iconst 3, 1) := by decide +kernel
theorem dX12_ringNow_14 : decode cX12_ringNow 14 = .ok (.iaload, 1) := by decide +kernel
theorem dX12_ringNow_15 : decode cX12_ringNow 15 = .ok (.if_icmp .ge 32, 3) := by decide +kernel
theorem dX12_ringNow_18 : decode cX12_ringNow 18 = .ok (.iload_n 1, 1) := by decide +kernel
theorem dX12_ringNow_19 : decode cX12_ringNow 19 = .ok (.aload_n 0, 1) := by decide +kernel
theorem dX12_ringNow_20 : decode cX12_ringNow 20 = .ok (.getfield 77, 3) := by decide +kernel
theorem dX12_ringNow_23 : decode cX12_ringNow 23 = .ok (.iload_n 2, 1) := by decide +kernel
theorem dX12_ringNow_24 : decode cX12_ringNow 24 = .ok (.iaload, 1) := by decide +kernel
theorem dX12_ringNow_25 : decode cX12_ringNow 25 = .ok (.iload_n 2, 1) := by decide +kernel
theorem dX12_ringNow_26 : decode cX12_ringNow 26 = .ok (.invokestatic 278, 3) := by decide +kernel
theorem dX12_ringNow_29 : decode cX12_ringNow 29 = .ok (.ifCond .eq 9, 3) := by decide +kernel
theorem dX12_ringNow_32 : decode cX12_ringNow 32 = .ok (.iconst 1, 1) := by decide +kernel
theorem dX12_ringNow_33 : decode cX12_ringNow 33 = .ok (.iload_n 2, 1) := by decide +kernel
theorem dX12_ringNow_34 : decode cX12_ringNow 34 = .ok (.ishl, 1) := by decide +kernel
theorem dX12_ringNow_35 : decode cX12_ringNow 35 = .ok (.goto 4, 3) := by decide +kernel
theorem dX12_ringNow_38 : decode cX12_ringNow 38 = .ok (.iconst 0, 1) := by decide +kernel
theorem dX12_ringNow_39 : decode cX12_ringNow 39 = .ok (.ior, 1) := by decide +kernel
theorem dX12_ringNow_40 : decode cX12_ringNow 40 = .ok (.istore_n 1, 1) := by decide +kernel
theorem dX12_ringNow_41 : decode cX12_ringNow 41 = .ok (.iinc 2 1, 3) := by decide +kernel
theorem dX12_ringNow_44 : decode cX12_ringNow 44 = .ok (.goto (-36), 3) := by decide +kernel
theorem dX12_ringNow_47 : decode cX12_ringNow 47 = .ok (.iload_n 1, 1) := by decide +kernel
theorem dX12_ringNow_48 : decode cX12_ringNow 48 = .ok (.ireturn, 1) := by decide +kernel
theorem dX12_ring_0 : decode cX12_ring 0 = .ok (.aload_n 0, 1) := by decide +kernel
theorem dX12_ring_1 : decode cX12_ring 1 = .ok (.iconst 0, 1) := by decide +kernel
theorem dX12_ring_2 : decode cX12_ring 2 = .ok (.putfield 89, 3) := by decide +kernel
theorem dX12_ring_5 : decode cX12_ring 5 = .ok (.aload_n 0, 1) := by decide +kernel
theorem dX12_ring_6 : decode cX12_ring 6 = .ok (.invokevirtual 267, 3) := by decide +kernel
theorem dX12_ring_9 : decode cX12_ring 9 = .ok (.ifCond .eq 10, 3) := by decide +kernel
theorem dX12_ring_12 : decode cX12_ring 12 = .ok (.aload_n 0, 1) := by decide +kernel
theorem dX12_ring_13 : decode cX12_ring 13 = .ok (.invokevirtual 418, 3) := by decide +kernel
theorem dX12_ring_16 : decode cX12_ring 16 = .ok (.goto 5, 3) := by decide +kernel
theorem dX12_ring_19 : decode cX12_ring 19 = .ok (.bipush (-2), 2) := by decide +kernel
theorem dX12_ring_21 : decode cX12_ring 21 = .ok (.ireturn, 1) := by decide +kernel
theorem dX12_depthOf_0 : decode cX12_depthOf 0 = .ok (.iconst 0, 1) := by decide +kernel
theorem dX12_depthOf_1 : decode cX12_depthOf 1 = .ok (.istore_n 2, 1) := by decide +kernel
theorem dX12_depthOf_2 : decode cX12_depthOf 2 = .ok (.iconst 0, 1) := by decide +kernel
theorem dX12_depthOf_3 : decode cX12_depthOf 3 = .ok (.istore_n 3, 1) := by decide +kernel
theorem dX12_depthOf_4 : decode cX12_depthOf 4 = .ok (.iload_n 3, 1) := by decide +kernel
theorem dX12_depthOf_5 : decode cX12_depthOf 5 = .ok (.aload_n 0, 1) := by decide +kernel
theorem dX12_depthOf_6 : decode cX12_depthOf 6 = .ok (.getfield 34, 3) := by decide +kernel
theorem dX12_depthOf_9 : decode cX12_depthOf 9 = .ok (.iconst 3, 1) := by decide +kernel
theorem dX12_depthOf_10 : decode cX12_depthOf 10 = .ok (.iaload, 1) := by decide +kernel
theorem dX12_depthOf_11 : decode cX12_depthOf 11 = .ok (.if_icmp .ge 46, 3) := by decide +kernel
theorem dX12_depthOf_14 : decode cX12_depthOf 14 = .ok (.aload_n 0, 1) := by decide +kernel
theorem dX12_depthOf_15 : decode cX12_depthOf 15 = .ok (.getfield 40, 3) := by decide +kernel
theorem dX12_depthOf_18 : decode cX12_depthOf 18 = .ok (.iload_n 1, 1) := by decide +kernel
theorem dX12_depthOf_19 : decode cX12_depthOf 19 = .ok (.iaload, 1) := by decide +kernel
theorem dX12_depthOf_20 : decode cX12_depthOf 20 = .ok (.iload_n 3, 1) := by decide +kernel
theorem dX12_depthOf_21 : decode cX12_depthOf 21 = .ok (.invokestatic 278, 3) := by decide +kernel
theorem dX12_depthOf_24 : decode cX12_depthOf 24 = .ok (.ifCond .eq 11, 3) := by decide +kernel
theorem dX12_depthOf_27 : decode cX12_depthOf 27 = .ok (.aload_n 0, 1) := by decide +kernel
theorem dX12_depthOf_28 : decode cX12_depthOf 28 = .ok (.iload_n 3, 1) := by decide +kernel
theorem dX12_depthOf_29 : decode cX12_depthOf 29 = .ok (.invokevirtual 421, 3) := by decide +kernel
theorem dX12_depthOf_32 : decode cX12_depthOf 32 = .ok (.goto 4, 3) := by decide +kernel
theorem dX12_depthOf_35 : decode cX12_depthOf 35 = .ok (.iconst 0, 1) := by decide +kernel
theorem dX12_depthOf_36 : decode cX12_depthOf 36 = .ok (.istore 4, 2) := by decide +kernel
theorem dX12_depthOf_38 : decode cX12_depthOf 38 = .ok (.iload 4, 2) := by decide +kernel
theorem dX12_depthOf_40 : decode cX12_depthOf 40 = .ok (.iload_n 2, 1) := by decide +kernel
theorem dX12_depthOf_41 : decode cX12_depthOf 41 = .ok (.if_icmp .le 8, 3) := by decide +kernel
theorem dX12_depthOf_44 : decode cX12_depthOf 44 = .ok (.iload 4, 2) := by decide +kernel
theorem dX12_depthOf_46 : decode cX12_depthOf 46 = .ok (.goto 4, 3) := by decide +kernel
theorem dX12_depthOf_49 : decode cX12_depthOf 49 = .ok (.iload_n 2, 1) := by decide +kernel
theorem dX12_depthOf_50 : decode cX12_depthOf 50 = .ok (.istore_n 2, 1) := by decide +kernel
theorem dX12_depthOf_51 : decode cX12_depthOf 51 = .ok (.iinc 3 1, 3) := by decide +kernel
theorem dX12_depthOf_54 : decode cX12_depthOf 54 = .ok (.goto (-50), 3) := by decide +kernel
theorem dX12_depthOf_57 : decode cX12_depthOf 57 = .ok (.iload_n 2, 1) := by decide +kernel
theorem dX12_depthOf_58 : decode cX12_depthOf 58 = .ok (.iconst 1, 1) := by decide +kernel
theorem dX12_depthOf_59 : decode cX12_depthOf 59 = .ok (.iadd, 1) := by decide +kernel
theorem dX12_depthOf_60 : decode cX12_depthOf 60 = .ok (.ireturn, 1) := by decide +kernel
theorem dX12_depth_0 : decode cX12_depth 0 = .ok (.aload_n 0, 1) := by decide +kernel
theorem dX12_depth_1 : decode cX12_depth 1 = .ok (.iconst 0, 1) := by decide +kernel
theorem dX12_depth_2 : decode cX12_depth 2 = .ok (.putfield 89, 3) := by decide +kernel
theorem dX12_depth_5 : decode cX12_depth 5 = .ok (.aload_n 0, 1) := by decide +kernel
theorem dX12_depth_6 : decode cX12_depth 6 = .ok (.iload_n 1, 1) := by decide +kernel
theorem dX12_depth_7 : decode cX12_depth 7 = .ok (.i2l, 1) := by decide +kernel
theorem dX12_depth_8 : decode cX12_depth 8 = .ok (.invokevirtual 270, 3) := by decide +kernel
theorem dX12_depth_11 : decode cX12_depth 11 = .ok (.ifCond .ne 6, 3) := by decide +kernel
