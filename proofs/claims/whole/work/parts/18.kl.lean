/-! code rows of the law and the JDK -/
theorem k_224_0 : COD 224 0 = some (.iload_n 0, 1, 0, 0, 0, 0) := by decide +kernel
theorem k_224_1 : COD 224 1 = some (.iload_n 1, 1, 0, 0, 0, 0) := by decide +kernel
theorem k_224_2 : COD 224 2 = some (.irem, 1, 0, 0, 0, 0) := by decide +kernel
theorem k_224_3 : COD 224 3 = some (.istore_n 2, 1, 0, 0, 0, 0) := by decide +kernel
theorem k_224_4 : COD 224 4 = some (.iload_n 0, 1, 0, 0, 0, 0) := by decide +kernel
theorem k_224_5 : COD 224 5 = some (.iload_n 1, 1, 0, 0, 0, 0) := by decide +kernel
theorem k_224_6 : COD 224 6 = some (.ixor, 1, 0, 0, 0, 0) := by decide +kernel
theorem k_224_7 : COD 224 7 = some (.ifCond .ge 11, 3, 18, 0, 0, 0) := by decide +kernel
theorem k_224_10 : COD 224 10 = some (.iload_n 2, 1, 0, 0, 0, 0) := by decide +kernel
theorem k_224_11 : COD 224 11 = some (.ifCond .eq 7, 3, 18, 0, 0, 0) := by decide +kernel
theorem k_224_14 : COD 224 14 = some (.iload_n 2, 1, 0, 0, 0, 0) := by decide +kernel
theorem k_224_15 : COD 224 15 = some (.iload_n 1, 1, 0, 0, 0, 0) := by decide +kernel
theorem k_224_16 : COD 224 16 = some (.iadd, 1, 0, 0, 0, 0) := by decide +kernel
theorem k_224_17 : COD 224 17 = some (.ireturn, 1, 0, 0, 0, 0) := by decide +kernel
theorem k_224_18 : COD 224 18 = some (.iload_n 2, 1, 0, 0, 0, 0) := by decide +kernel
theorem k_224_19 : COD 224 19 = some (.ireturn, 1, 0, 0, 0, 0) := by decide +kernel
theorem k_225_0 : COD 225 0 = some (.iload_n 0, 1, 0, 0, 0, 0) := by decide +kernel
theorem k_225_1 : COD 225 1 = some (.iload_n 1, 1, 0, 0, 0, 0) := by decide +kernel
theorem k_225_2 : COD 225 2 = some (.if_icmp .lt 7, 3, 9, 0, 0, 0) := by decide +kernel
theorem k_225_5 : COD 225 5 = some (.iload_n 0, 1, 0, 0, 0, 0) := by decide +kernel
theorem k_225_6 : COD 225 6 = some (.goto 4, 3, 10, 0, 0, 0) := by decide +kernel
theorem k_225_9 : COD 225 9 = some (.iload_n 1, 1, 0, 0, 0, 0) := by decide +kernel
theorem k_225_10 : COD 225 10 = some (.ireturn, 1, 0, 0, 0, 0) := by decide +kernel
theorem k_226_0 : COD 226 0 = some (.iload_n 0, 1, 0, 0, 0, 0) := by decide +kernel
theorem k_226_1 : COD 226 1 = some (.iload_n 1, 1, 0, 0, 0, 0) := by decide +kernel
theorem k_226_2 : COD 226 2 = some (.if_icmp .gt 7, 3, 9, 0, 0, 0) := by decide +kernel
theorem k_226_5 : COD 226 5 = some (.iload_n 0, 1, 0, 0, 0, 0) := by decide +kernel
theorem k_226_6 : COD 226 6 = some (.goto 4, 3, 10, 0, 0, 0) := by decide +kernel
theorem k_226_9 : COD 226 9 = some (.iload_n 1, 1, 0, 0, 0, 0) := by decide +kernel
theorem k_226_10 : COD 226 10 = some (.ireturn, 1, 0, 0, 0, 0) := by decide +kernel
theorem k_227_0 : COD 227 0 = some (.aload_n 0, 1, 0, 0, 0, 0) := by decide +kernel
theorem k_227_1 : COD 227 1 = some (.getfield 9, 3, 21, 0, 1597, 0) := by decide +kernel
theorem k_227_4 : COD 227 4 = some (.arraylength, 1, 0, 0, 0, 0) := by decide +kernel
theorem k_227_5 : COD 227 5 = some (.aload_n 0, 1, 0, 0, 0, 0) := by decide +kernel
theorem k_227_6 : COD 227 6 = some (.invokevirtual 335, 3, 229, 0, 411, 21) := by decide +kernel
theorem k_227_9 : COD 227 9 = some (.ishr, 1, 0, 0, 0, 0) := by decide +kernel
theorem k_227_10 : COD 227 10 = some (.ireturn, 1, 0, 0, 0, 0) := by decide +kernel
theorem k_228_0 : COD 228 0 = some (.aload_n 0, 1, 0, 0, 0, 0) := by decide +kernel
theorem k_228_1 : COD 228 1 = some (.invokevirtual 492, 3, 230, 0, 421, 21) := by decide +kernel
theorem k_228_4 : COD 228 4 = some (.ifCond .eq 12, 3, 16, 0, 0, 0) := by decide +kernel
theorem k_228_7 : COD 228 7 = some (.aload_n 0, 1, 0, 0, 0, 0) := by decide +kernel
theorem k_228_8 : COD 228 8 = some (.getfield 9, 3, 21, 0, 1597, 0) := by decide +kernel
theorem k_228_11 : COD 228 11 = some (.iload_n 1, 1, 0, 0, 0, 0) := by decide +kernel
theorem k_228_12 : COD 228 12 = some (.invokestatic 495, 3, 232, 2, 425, 0) := by decide +kernel
theorem k_228_15 : COD 228 15 = some (.ireturn, 1, 0, 0, 0, 3) := by decide +kernel
theorem k_228_16 : COD 228 16 = some (.aload_n 0, 1, 0, 0, 0, 0) := by decide +kernel
theorem k_228_17 : COD 228 17 = some (.getfield 9, 3, 21, 0, 1597, 0) := by decide +kernel
theorem k_228_20 : COD 228 20 = some (.iload_n 1, 1, 0, 0, 0, 0) := by decide +kernel
theorem k_228_21 : COD 228 21 = some (.invokestatic 498, 3, 999, 2, 436, 0) := by decide +kernel
theorem k_228_24 : COD 228 24 = some (.ireturn, 1, 0, 0, 0, 3) := by decide +kernel
theorem k_229_0 : COD 229 0 = some (.getstatic 38, 3, 2, 0, 415, 0) := by decide +kernel
theorem k_229_3 : COD 229 3 = some (.ifCond .eq 10, 3, 13, 0, 0, 0) := by decide +kernel
theorem k_229_6 : COD 229 6 = some (.aload_n 0, 1, 0, 0, 0, 0) := by decide +kernel
theorem k_229_7 : COD 229 7 = some (.getfield 15, 3, 21, 1, 1598, 0) := by decide +kernel
theorem k_229_10 : COD 229 10 = some (.goto 4, 3, 14, 0, 0, 0) := by decide +kernel
theorem k_229_13 : COD 229 13 = some (.iconst 1, 1, 0, 0, 0, 0) := by decide +kernel
theorem k_229_14 : COD 229 14 = some (.ireturn, 1, 0, 0, 0, 2) := by decide +kernel
theorem k_230_0 : COD 230 0 = some (.getstatic 38, 3, 2, 0, 415, 0) := by decide +kernel
theorem k_230_3 : COD 230 3 = some (.ifCond .eq 14, 3, 17, 0, 0, 0) := by decide +kernel
theorem k_230_6 : COD 230 6 = some (.aload_n 0, 1, 0, 0, 0, 0) := by decide +kernel
theorem k_230_7 : COD 230 7 = some (.getfield 15, 3, 21, 1, 1598, 0) := by decide +kernel
theorem k_230_10 : COD 230 10 = some (.ifCond .ne 7, 3, 17, 0, 0, 0) := by decide +kernel
theorem k_230_13 : COD 230 13 = some (.iconst 1, 1, 0, 0, 0, 0) := by decide +kernel
theorem k_230_14 : COD 230 14 = some (.goto 4, 3, 18, 0, 0, 0) := by decide +kernel
theorem k_230_17 : COD 230 17 = some (.iconst 0, 1, 0, 0, 0, 0) := by decide +kernel
theorem k_230_18 : COD 230 18 = some (.ireturn, 1, 0, 0, 0, 1) := by decide +kernel
theorem k_231_0 : COD 231 0 = some (.iload_n 0, 1, 0, 0, 0, 0) := by decide +kernel
theorem k_231_1 : COD 231 1 = some (.iload_n 1, 1, 0, 0, 0, 0) := by decide +kernel
theorem k_231_2 : COD 231 2 = some (.getstatic 1053, 3, 3, 0, 431, 0) := by decide +kernel
theorem k_231_5 : COD 231 5 = some (.invokestatic 1059, 3, 233, 3, 433, 0) := by decide +kernel
theorem k_231_8 : COD 231 8 = some (.pop, 1, 0, 0, 0, 0) := by decide +kernel
theorem k_231_9 : COD 231 9 = some (.return_, 1, 0, 0, 0, 0) := by decide +kernel
theorem k_232_0 : COD 232 0 = some (.iload_n 1, 1, 0, 0, 0, 0) := by decide +kernel
theorem k_232_1 : COD 232 1 = some (.aload_n 0, 1, 0, 0, 0, 0) := by decide +kernel
theorem k_232_2 : COD 232 2 = some (.arraylength, 1, 0, 0, 0, 0) := by decide +kernel
theorem k_232_3 : COD 232 3 = some (.invokestatic 9, 3, 231, 2, 428, 21) := by decide +kernel
theorem k_232_6 : COD 232 6 = some (.aload_n 0, 1, 0, 0, 0, 0) := by decide +kernel
theorem k_232_7 : COD 232 7 = some (.iload_n 1, 1, 0, 0, 0, 0) := by decide +kernel
theorem k_232_8 : COD 232 8 = some (.baload, 1, 0, 0, 0, 0) := by decide +kernel
theorem k_232_9 : COD 232 9 = some (.sipush 255, 3, 0, 0, 0, 0) := by decide +kernel
theorem k_232_12 : COD 232 12 = some (.iand, 1, 0, 0, 0, 0) := by decide +kernel
theorem k_232_13 : COD 232 13 = some (.i2c, 1, 0, 0, 0, 0) := by decide +kernel
theorem k_232_14 : COD 232 14 = some (.ireturn, 1, 0, 0, 0, 3) := by decide +kernel
theorem k_233_0 : COD 233 0 = some (.iload_n 0, 1, 0, 0, 0, 0) := by decide +kernel
theorem k_233_1 : COD 233 1 = some (.ifCond .lt 8, 3, 9, 0, 0, 0) := by decide +kernel
theorem k_233_4 : COD 233 4 = some (.iload_n 0, 1, 0, 0, 0, 0) := by decide +kernel
theorem k_233_5 : COD 233 5 = some (.iload_n 1, 1, 0, 0, 0, 0) := by decide +kernel
theorem k_233_6 : COD 233 6 = some (.if_icmp .lt 10, 3, 16, 0, 0, 0) := by decide +kernel
theorem k_233_9 : COD 233 9 = some (.aload_n 2, 1, 0, 0, 0, 0) := by decide +kernel
theorem k_233_10 : COD 233 10 = some (.iload_n 0, 1, 0, 0, 0, 0) := by decide +kernel
theorem k_233_11 : COD 233 11 = some (.iload_n 1, 1, 0, 0, 0, 0) := by decide +kernel
theorem k_233_12 : COD 233 12 = some (.invokestatic 95, 3, 999, 0, 0, 0) := by decide +kernel
theorem k_233_15 : COD 233 15 = some (.athrow, 1, 0, 0, 0, 0) := by decide +kernel
theorem k_233_16 : COD 233 16 = some (.iload_n 0, 1, 0, 0, 0, 0) := by decide +kernel
theorem k_233_17 : COD 233 17 = some (.ireturn, 1, 0, 0, 0, 0) := by decide +kernel
theorem k_234_0 : COD 234 0 = some (.aload 6, 2, 0, 0, 0, 0) := by decide +kernel
theorem k_234_2 : COD 234 2 = some (.iconst 0, 1, 0, 0, 0, 0) := by decide +kernel
theorem k_234_3 : COD 234 3 = some (.aload_n 0, 1, 0, 0, 0, 0) := by decide +kernel
theorem k_234_4 : COD 234 4 = some (.iload_n 1, 1, 0, 0, 0, 0) := by decide +kernel
theorem k_234_5 : COD 234 5 = some (.iload_n 2, 1, 0, 0, 0, 0) := by decide +kernel
theorem k_234_6 : COD 234 6 = some (.iload_n 3, 1, 0, 0, 0, 0) := by decide +kernel
theorem k_234_7 : COD 234 7 = some (.iload 4, 2, 0, 0, 0, 0) := by decide +kernel
theorem k_234_9 : COD 234 9 = some (.iload 5, 2, 0, 0, 0, 0) := by decide +kernel
theorem k_234_11 : COD 234 11 = some (.invokevirtual 7, 3, 84, 5, 677, 7) := by decide +kernel
theorem k_234_14 : COD 234 14 = some (.i2l, 1, 0, 0, 0, 0) := by decide +kernel
theorem k_234_15 : COD 234 15 = some (.lastore, 1, 0, 0, 0, 0) := by decide +kernel
theorem k_234_16 : COD 234 16 = some (.goto 7, 3, 23, 0, 0, 0) := by decide +kernel
theorem k_234_19 : COD 234 19 = some (.astore 7, 2, 0, 0, 0, 0) := by decide +kernel
theorem k_234_21 : COD 234 21 = some (.iconst 1, 1, 0, 0, 0, 0) := by decide +kernel
theorem k_234_22 : COD 234 22 = some (.ireturn, 1, 0, 0, 0, 0) := by decide +kernel
theorem k_234_23 : COD 234 23 = some (.iconst 0, 1, 0, 0, 0, 0) := by decide +kernel
theorem k_234_24 : COD 234 24 = some (.ireturn, 1, 0, 0, 0, 0) := by decide +kernel
theorem k_235_0 : COD 235 0 = some (.aload_n 2, 1, 0, 0, 0, 0) := by decide +kernel
theorem k_235_1 : COD 235 1 = some (.iconst 0, 1, 0, 0, 0, 0) := by decide +kernel
theorem k_235_2 : COD 235 2 = some (.aload_n 0, 1, 0, 0, 0, 0) := by decide +kernel
theorem k_235_3 : COD 235 3 = some (.iload_n 1, 1, 0, 0, 0, 0) := by decide +kernel
theorem k_235_4 : COD 235 4 = some (.invokevirtual 15, 3, 85, 1, 757, 7) := by decide +kernel
theorem k_235_7 : COD 235 7 = some (.i2l, 1, 0, 0, 0, 0) := by decide +kernel
theorem k_235_8 : COD 235 8 = some (.lastore, 1, 0, 0, 0, 0) := by decide +kernel
theorem k_235_9 : COD 235 9 = some (.goto 6, 3, 15, 0, 0, 0) := by decide +kernel
theorem k_235_12 : COD 235 12 = some (.astore_n 3, 1, 0, 0, 0, 0) := by decide +kernel
theorem k_235_13 : COD 235 13 = some (.iconst 1, 1, 0, 0, 0, 0) := by decide +kernel
theorem k_235_14 : COD 235 14 = some (.ireturn, 1, 0, 0, 0, 0) := by decide +kernel
theorem k_235_15 : COD 235 15 = some (.iconst 0, 1, 0, 0, 0, 0) := by decide +kernel
theorem k_235_16 : COD 235 16 = some (.ireturn, 1, 0, 0, 0, 0) := by decide +kernel
theorem k_236_0 : COD 236 0 = some (.aload_n 2, 1, 0, 0, 0, 0) := by decide +kernel
theorem k_236_1 : COD 236 1 = some (.iconst 0, 1, 0, 0, 0, 0) := by decide +kernel
theorem k_236_2 : COD 236 2 = some (.aload_n 0, 1, 0, 0, 0, 0) := by decide +kernel
theorem k_236_3 : COD 236 3 = some (.iload_n 1, 1, 0, 0, 0, 0) := by decide +kernel
theorem k_236_4 : COD 236 4 = some (.invokevirtual 21, 3, 94, 1, 781, 7) := by decide +kernel
theorem k_236_7 : COD 236 7 = some (.i2l, 1, 0, 0, 0, 0) := by decide +kernel
theorem k_236_8 : COD 236 8 = some (.lastore, 1, 0, 0, 0, 0) := by decide +kernel
theorem k_236_9 : COD 236 9 = some (.goto 6, 3, 15, 0, 0, 0) := by decide +kernel
theorem k_236_12 : COD 236 12 = some (.astore_n 3, 1, 0, 0, 0, 0) := by decide +kernel
theorem k_236_13 : COD 236 13 = some (.iconst 1, 1, 0, 0, 0, 0) := by decide +kernel
theorem k_236_14 : COD 236 14 = some (.ireturn, 1, 0, 0, 0, 0) := by decide +kernel
theorem k_236_15 : COD 236 15 = some (.iconst 0, 1, 0, 0, 0, 0) := by decide +kernel
theorem k_236_16 : COD 236 16 = some (.ireturn, 1, 0, 0, 0, 0) := by decide +kernel
theorem k_237_0 : COD 237 0 = some (.aload_n 2, 1, 0, 0, 0, 0) := by decide +kernel
theorem k_237_1 : COD 237 1 = some (.iconst 0, 1, 0, 0, 0, 0) := by decide +kernel
theorem k_237_2 : COD 237 2 = some (.aload_n 0, 1, 0, 0, 0, 0) := by decide +kernel
theorem k_237_3 : COD 237 3 = some (.iload_n 1, 1, 0, 0, 0, 0) := by decide +kernel
theorem k_237_4 : COD 237 4 = some (.invokevirtual 26, 3, 95, 1, 808, 7) := by decide +kernel
theorem k_237_7 : COD 237 7 = some (.i2l, 1, 0, 0, 0, 0) := by decide +kernel
theorem k_237_8 : COD 237 8 = some (.lastore, 1, 0, 0, 0, 0) := by decide +kernel
theorem k_237_9 : COD 237 9 = some (.goto 6, 3, 15, 0, 0, 0) := by decide +kernel
theorem k_237_12 : COD 237 12 = some (.astore_n 3, 1, 0, 0, 0, 0) := by decide +kernel
theorem k_237_13 : COD 237 13 = some (.iconst 1, 1, 0, 0, 0, 0) := by decide +kernel
theorem k_237_14 : COD 237 14 = some (.ireturn, 1, 0, 0, 0, 0) := by decide +kernel
theorem k_237_15 : COD 237 15 = some (.iconst 0, 1, 0, 0, 0, 0) := by decide +kernel
theorem k_237_16 : COD 237 16 = some (.ireturn, 1, 0, 0, 0, 0) := by decide +kernel
theorem k_238_0 : COD 238 0 = some (.aload_n 2, 1, 0, 0, 0, 0) := by decide +kernel
theorem k_238_1 : COD 238 1 = some (.iconst 0, 1, 0, 0, 0, 0) := by decide +kernel
theorem k_238_2 : COD 238 2 = some (.aload_n 0, 1, 0, 0, 0, 0) := by decide +kernel
theorem k_238_3 : COD 238 3 = some (.iload_n 1, 1, 0, 0, 0, 0) := by decide +kernel
theorem k_238_4 : COD 238 4 = some (.invokevirtual 29, 3, 96, 1, 815, 7) := by decide +kernel
theorem k_238_7 : COD 238 7 = some (.lastore, 1, 0, 0, 0, 0) := by decide +kernel
theorem k_238_8 : COD 238 8 = some (.goto 6, 3, 14, 0, 0, 0) := by decide +kernel
theorem k_238_11 : COD 238 11 = some (.astore_n 3, 1, 0, 0, 0, 0) := by decide +kernel
theorem k_238_12 : COD 238 12 = some (.iconst 1, 1, 0, 0, 0, 0) := by decide +kernel
theorem k_238_13 : COD 238 13 = some (.ireturn, 1, 0, 0, 0, 0) := by decide +kernel
theorem k_238_14 : COD 238 14 = some (.iconst 0, 1, 0, 0, 0, 0) := by decide +kernel
theorem k_238_15 : COD 238 15 = some (.ireturn, 1, 0, 0, 0, 0) := by decide +kernel
theorem k_239_0 : COD 239 0 = some (.aload_n 2, 1, 0, 0, 0, 0) := by decide +kernel
theorem k_239_1 : COD 239 1 = some (.iconst 0, 1, 0, 0, 0, 0) := by decide +kernel
theorem k_239_2 : COD 239 2 = some (.aload_n 0, 1, 0, 0, 0, 0) := by decide +kernel
theorem k_239_3 : COD 239 3 = some (.iload_n 1, 1, 0, 0, 0, 0) := by decide +kernel
theorem k_239_4 : COD 239 4 = some (.invokevirtual 33, 3, 97, 1, 822, 7) := by decide +kernel
theorem k_239_7 : COD 239 7 = some (.i2l, 1, 0, 0, 0, 0) := by decide +kernel
theorem k_239_8 : COD 239 8 = some (.lastore, 1, 0, 0, 0, 0) := by decide +kernel
theorem k_239_9 : COD 239 9 = some (.goto 6, 3, 15, 0, 0, 0) := by decide +kernel
theorem k_239_12 : COD 239 12 = some (.astore_n 3, 1, 0, 0, 0, 0) := by decide +kernel
theorem k_239_13 : COD 239 13 = some (.iconst 1, 1, 0, 0, 0, 0) := by decide +kernel
theorem k_239_14 : COD 239 14 = some (.ireturn, 1, 0, 0, 0, 0) := by decide +kernel
theorem k_239_15 : COD 239 15 = some (.iconst 0, 1, 0, 0, 0, 0) := by decide +kernel
theorem k_239_16 : COD 239 16 = some (.ireturn, 1, 0, 0, 0, 0) := by decide +kernel
theorem k_240_0 : COD 240 0 = some (.aload_n 2, 1, 0, 0, 0, 0) := by decide +kernel
theorem k_240_1 : COD 240 1 = some (.iconst 0, 1, 0, 0, 0, 0) := by decide +kernel
theorem k_240_2 : COD 240 2 = some (.aload_n 0, 1, 0, 0, 0, 0) := by decide +kernel
theorem k_240_3 : COD 240 3 = some (.iload_n 1, 1, 0, 0, 0, 0) := by decide +kernel
theorem k_240_4 : COD 240 4 = some (.invokevirtual 36, 3, 98, 1, 829, 7) := by decide +kernel
theorem k_240_7 : COD 240 7 = some (.i2l, 1, 0, 0, 0, 0) := by decide +kernel
theorem k_240_8 : COD 240 8 = some (.lastore, 1, 0, 0, 0, 0) := by decide +kernel
theorem k_240_9 : COD 240 9 = some (.goto 6, 3, 15, 0, 0, 0) := by decide +kernel
theorem k_240_12 : COD 240 12 = some (.astore_n 3, 1, 0, 0, 0, 0) := by decide +kernel
theorem k_240_13 : COD 240 13 = some (.iconst 1, 1, 0, 0, 0, 0) := by decide +kernel
theorem k_240_14 : COD 240 14 = some (.ireturn, 1, 0, 0, 0, 0) := by decide +kernel
theorem k_240_15 : COD 240 15 = some (.iconst 0, 1, 0, 0, 0, 0) := by decide +kernel
theorem k_240_16 : COD 240 16 = some (.ireturn, 1, 0, 0, 0, 0) := by decide +kernel
theorem k_241_0 : COD 241 0 = some (.aload_n 2, 1, 0, 0, 0, 0) := by decide +kernel
theorem k_241_1 : COD 241 1 = some (.iconst 0, 1, 0, 0, 0, 0) := by decide +kernel
theorem k_241_2 : COD 241 2 = some (.aload_n 0, 1, 0, 0, 0, 0) := by decide +kernel
theorem k_241_3 : COD 241 3 = some (.iload_n 1, 1, 0, 0, 0, 0) := by decide +kernel
theorem k_241_4 : COD 241 4 = some (.invokevirtual 39, 3, 99, 1, 836, 7) := by decide +kernel
theorem k_241_7 : COD 241 7 = some (.i2l, 1, 0, 0, 0, 0) := by decide +kernel
theorem k_241_8 : COD 241 8 = some (.lastore, 1, 0, 0, 0, 0) := by decide +kernel
theorem k_241_9 : COD 241 9 = some (.goto 6, 3, 15, 0, 0, 0) := by decide +kernel
theorem k_241_12 : COD 241 12 = some (.astore_n 3, 1, 0, 0, 0, 0) := by decide +kernel
theorem k_241_13 : COD 241 13 = some (.iconst 1, 1, 0, 0, 0, 0) := by decide +kernel
theorem k_241_14 : COD 241 14 = some (.ireturn, 1, 0, 0, 0, 0) := by decide +kernel
theorem k_241_15 : COD 241 15 = some (.iconst 0, 1, 0, 0, 0, 0) := by decide +kernel
theorem k_241_16 : COD 241 16 = some (.ireturn, 1, 0, 0, 0, 0) := by decide +kernel
theorem k_242_0 : COD 242 0 = some (.aload_n 2, 1, 0, 0, 0, 0) := by decide +kernel
theorem k_242_1 : COD 242 1 = some (.iconst 0, 1, 0, 0, 0, 0) := by decide +kernel
theorem k_242_2 : COD 242 2 = some (.aload_n 0, 1, 0, 0, 0, 0) := by decide +kernel
theorem k_242_3 : COD 242 3 = some (.iload_n 1, 1, 0, 0, 0, 0) := by decide +kernel
theorem k_242_4 : COD 242 4 = some (.invokevirtual 42, 3, 100, 1, 843, 7) := by decide +kernel
theorem k_242_7 : COD 242 7 = some (.ifCond .eq 7, 3, 14, 0, 0, 0) := by decide +kernel
theorem k_242_10 : COD 242 10 = some (.lconst 1, 1, 0, 0, 0, 0) := by decide +kernel
theorem k_242_11 : COD 242 11 = some (.goto 4, 3, 15, 0, 0, 0) := by decide +kernel
theorem k_242_14 : COD 242 14 = some (.lconst 0, 1, 0, 0, 0, 0) := by decide +kernel
theorem k_242_15 : COD 242 15 = some (.lastore, 1, 0, 0, 0, 0) := by decide +kernel
theorem k_242_16 : COD 242 16 = some (.goto 6, 3, 22, 0, 0, 0) := by decide +kernel
theorem k_242_19 : COD 242 19 = some (.astore_n 3, 1, 0, 0, 0, 0) := by decide +kernel
theorem k_242_20 : COD 242 20 = some (.iconst 1, 1, 0, 0, 0, 0) := by decide +kernel
theorem k_242_21 : COD 242 21 = some (.ireturn, 1, 0, 0, 0, 0) := by decide +kernel
theorem k_242_22 : COD 242 22 = some (.iconst 0, 1, 0, 0, 0, 0) := by decide +kernel
theorem k_242_23 : COD 242 23 = some (.ireturn, 1, 0, 0, 0, 0) := by decide +kernel
theorem k_243_0 : COD 243 0 = some (.aload_n 2, 1, 0, 0, 0, 0) := by decide +kernel
theorem k_243_1 : COD 243 1 = some (.iconst 0, 1, 0, 0, 0, 0) := by decide +kernel
theorem k_243_2 : COD 243 2 = some (.aload_n 0, 1, 0, 0, 0, 0) := by decide +kernel
theorem k_243_3 : COD 243 3 = some (.iload_n 1, 1, 0, 0, 0, 0) := by decide +kernel
theorem k_243_4 : COD 243 4 = some (.invokevirtual 46, 3, 101, 1, 850, 7) := by decide +kernel
theorem k_243_7 : COD 243 7 = some (.i2l, 1, 0, 0, 0, 0) := by decide +kernel
theorem k_243_8 : COD 243 8 = some (.lastore, 1, 0, 0, 0, 0) := by decide +kernel
theorem k_243_9 : COD 243 9 = some (.goto 9, 3, 18, 0, 0, 0) := by decide +kernel
theorem k_243_12 : COD 243 12 = some (.astore_n 3, 1, 0, 0, 0, 0) := by decide +kernel
theorem k_243_13 : COD 243 13 = some (.iconst 1, 1, 0, 0, 0, 0) := by decide +kernel
theorem k_243_14 : COD 243 14 = some (.ireturn, 1, 0, 0, 0, 0) := by decide +kernel
theorem k_243_15 : COD 243 15 = some (.astore_n 3, 1, 0, 0, 0, 0) := by decide +kernel
theorem k_243_16 : COD 243 16 = some (.iconst 2, 1, 0, 0, 0, 0) := by decide +kernel
theorem k_243_17 : COD 243 17 = some (.ireturn, 1, 0, 0, 0, 0) := by decide +kernel
theorem k_243_18 : COD 243 18 = some (.iconst 0, 1, 0, 0, 0, 0) := by decide +kernel
theorem k_243_19 : COD 243 19 = some (.ireturn, 1, 0, 0, 0, 0) := by decide +kernel
theorem k_244_0 : COD 244 0 = some (.aload_n 2, 1, 0, 0, 0, 0) := by decide +kernel
theorem k_244_1 : COD 244 1 = some (.iconst 0, 1, 0, 0, 0, 0) := by decide +kernel
theorem k_244_2 : COD 244 2 = some (.aload_n 0, 1, 0, 0, 0, 0) := by decide +kernel
theorem k_244_3 : COD 244 3 = some (.iload_n 1, 1, 0, 0, 0, 0) := by decide +kernel
theorem k_244_4 : COD 244 4 = some (.invokevirtual 49, 3, 102, 1, 858, 7) := by decide +kernel
theorem k_244_7 : COD 244 7 = some (.i2l, 1, 0, 0, 0, 0) := by decide +kernel
theorem k_244_8 : COD 244 8 = some (.lastore, 1, 0, 0, 0, 0) := by decide +kernel
theorem k_244_9 : COD 244 9 = some (.goto 6, 3, 15, 0, 0, 0) := by decide +kernel
theorem k_244_12 : COD 244 12 = some (.astore_n 3, 1, 0, 0, 0, 0) := by decide +kernel
theorem k_244_13 : COD 244 13 = some (.iconst 1, 1, 0, 0, 0, 0) := by decide +kernel
theorem k_244_14 : COD 244 14 = some (.ireturn, 1, 0, 0, 0, 0) := by decide +kernel
theorem k_244_15 : COD 244 15 = some (.iconst 0, 1, 0, 0, 0, 0) := by decide +kernel
theorem k_244_16 : COD 244 16 = some (.ireturn, 1, 0, 0, 0, 0) := by decide +kernel
theorem k_245_0 : COD 245 0 = some (.aload_n 2, 1, 0, 0, 0, 0) := by decide +kernel
theorem k_245_1 : COD 245 1 = some (.iconst 0, 1, 0, 0, 0, 0) := by decide +kernel
theorem k_245_2 : COD 245 2 = some (.aload_n 0, 1, 0, 0, 0, 0) := by decide +kernel
theorem k_245_3 : COD 245 3 = some (.iload_n 1, 1, 0, 0, 0, 0) := by decide +kernel
theorem k_245_4 : COD 245 4 = some (.invokevirtual 52, 3, 103, 1, 870, 7) := by decide +kernel
theorem k_245_7 : COD 245 7 = some (.i2l, 1, 0, 0, 0, 0) := by decide +kernel
theorem k_245_8 : COD 245 8 = some (.lastore, 1, 0, 0, 0, 0) := by decide +kernel
theorem k_245_9 : COD 245 9 = some (.goto 6, 3, 15, 0, 0, 0) := by decide +kernel
theorem k_245_12 : COD 245 12 = some (.astore_n 3, 1, 0, 0, 0, 0) := by decide +kernel
theorem k_245_13 : COD 245 13 = some (.iconst 1, 1, 0, 0, 0, 0) := by decide +kernel
theorem k_245_14 : COD 245 14 = some (.ireturn, 1, 0, 0, 0, 0) := by decide +kernel
theorem k_245_15 : COD 245 15 = some (.iconst 0, 1, 0, 0, 0, 0) := by decide +kernel
theorem k_245_16 : COD 245 16 = some (.ireturn, 1, 0, 0, 0, 0) := by decide +kernel
theorem k_246_0 : COD 246 0 = some (.aload_n 3, 1, 0, 0, 0, 0) := by decide +kernel
theorem k_246_1 : COD 246 1 = some (.iconst 0, 1, 0, 0, 0, 0) := by decide +kernel
theorem k_246_2 : COD 246 2 = some (.aload_n 0, 1, 0, 0, 0, 0) := by decide +kernel
theorem k_246_3 : COD 246 3 = some (.iload_n 1, 1, 0, 0, 0, 0) := by decide +kernel
theorem k_246_4 : COD 246 4 = some (.iload_n 2, 1, 0, 0, 0, 0) := by decide +kernel
theorem k_246_5 : COD 246 5 = some (.invokevirtual 55, 3, 104, 2, 885, 7) := by decide +kernel
theorem k_246_8 : COD 246 8 = some (.i2l, 1, 0, 0, 0, 0) := by decide +kernel
theorem k_246_9 : COD 246 9 = some (.lastore, 1, 0, 0, 0, 0) := by decide +kernel
theorem k_246_10 : COD 246 10 = some (.goto 7, 3, 17, 0, 0, 0) := by decide +kernel
theorem k_246_13 : COD 246 13 = some (.astore 4, 2, 0, 0, 0, 0) := by decide +kernel
theorem k_246_15 : COD 246 15 = some (.iconst 1, 1, 0, 0, 0, 0) := by decide +kernel
theorem k_246_16 : COD 246 16 = some (.ireturn, 1, 0, 0, 0, 0) := by decide +kernel
theorem k_246_17 : COD 246 17 = some (.iconst 0, 1, 0, 0, 0, 0) := by decide +kernel
theorem k_246_18 : COD 246 18 = some (.ireturn, 1, 0, 0, 0, 0) := by decide +kernel
theorem k_247_0 : COD 247 0 = some (.aload_n 3, 1, 0, 0, 0, 0) := by decide +kernel
theorem k_247_1 : COD 247 1 = some (.iconst 0, 1, 0, 0, 0, 0) := by decide +kernel
theorem k_247_2 : COD 247 2 = some (.aload_n 0, 1, 0, 0, 0, 0) := by decide +kernel
theorem k_247_3 : COD 247 3 = some (.iload_n 1, 1, 0, 0, 0, 0) := by decide +kernel
theorem k_247_4 : COD 247 4 = some (.iload_n 2, 1, 0, 0, 0, 0) := by decide +kernel
theorem k_247_5 : COD 247 5 = some (.invokevirtual 59, 3, 105, 2, 930, 7) := by decide +kernel
theorem k_247_8 : COD 247 8 = some (.lastore, 1, 0, 0, 0, 0) := by decide +kernel
theorem k_247_9 : COD 247 9 = some (.goto 7, 3, 16, 0, 0, 0) := by decide +kernel
theorem k_247_12 : COD 247 12 = some (.astore 4, 2, 0, 0, 0, 0) := by decide +kernel
theorem k_247_14 : COD 247 14 = some (.iconst 1, 1, 0, 0, 0, 0) := by decide +kernel
theorem k_247_15 : COD 247 15 = some (.ireturn, 1, 0, 0, 0, 0) := by decide +kernel
theorem k_247_16 : COD 247 16 = some (.iconst 0, 1, 0, 0, 0, 0) := by decide +kernel
theorem k_247_17 : COD 247 17 = some (.ireturn, 1, 0, 0, 0, 0) := by decide +kernel
theorem k_248_0 : COD 248 0 = some (.aload_n 3, 1, 0, 0, 0, 0) := by decide +kernel
theorem k_248_1 : COD 248 1 = some (.iconst 0, 1, 0, 0, 0, 0) := by decide +kernel
theorem k_248_2 : COD 248 2 = some (.aload_n 0, 1, 0, 0, 0, 0) := by decide +kernel
theorem k_248_3 : COD 248 3 = some (.iload_n 1, 1, 0, 0, 0, 0) := by decide +kernel
theorem k_248_4 : COD 248 4 = some (.iload_n 2, 1, 0, 0, 0, 0) := by decide +kernel
theorem k_248_5 : COD 248 5 = some (.invokevirtual 63, 3, 106, 2, 937, 7) := by decide +kernel
theorem k_248_8 : COD 248 8 = some (.i2l, 1, 0, 0, 0, 0) := by decide +kernel
theorem k_248_9 : COD 248 9 = some (.lastore, 1, 0, 0, 0, 0) := by decide +kernel
theorem k_248_10 : COD 248 10 = some (.goto 7, 3, 17, 0, 0, 0) := by decide +kernel
theorem k_248_13 : COD 248 13 = some (.astore 4, 2, 0, 0, 0, 0) := by decide +kernel
theorem k_248_15 : COD 248 15 = some (.iconst 1, 1, 0, 0, 0, 0) := by decide +kernel
theorem k_248_16 : COD 248 16 = some (.ireturn, 1, 0, 0, 0, 0) := by decide +kernel
theorem k_248_17 : COD 248 17 = some (.iconst 0, 1, 0, 0, 0, 0) := by decide +kernel
theorem k_248_18 : COD 248 18 = some (.ireturn, 1, 0, 0, 0, 0) := by decide +kernel
theorem k_249_0 : COD 249 0 = some (.aload_n 3, 1, 0, 0, 0, 0) := by decide +kernel
theorem k_249_1 : COD 249 1 = some (.iconst 0, 1, 0, 0, 0, 0) := by decide +kernel
theorem k_249_2 : COD 249 2 = some (.aload_n 0, 1, 0, 0, 0, 0) := by decide +kernel
theorem k_249_3 : COD 249 3 = some (.iload_n 1, 1, 0, 0, 0, 0) := by decide +kernel
theorem k_249_4 : COD 249 4 = some (.iload_n 2, 1, 0, 0, 0, 0) := by decide +kernel
theorem k_249_5 : COD 249 5 = some (.invokevirtual 66, 3, 107, 2, 944, 7) := by decide +kernel
theorem k_249_8 : COD 249 8 = some (.i2l, 1, 0, 0, 0, 0) := by decide +kernel
theorem k_249_9 : COD 249 9 = some (.lastore, 1, 0, 0, 0, 0) := by decide +kernel
theorem k_249_10 : COD 249 10 = some (.goto 7, 3, 17, 0, 0, 0) := by decide +kernel
theorem k_249_13 : COD 249 13 = some (.astore 4, 2, 0, 0, 0, 0) := by decide +kernel
theorem k_249_15 : COD 249 15 = some (.iconst 1, 1, 0, 0, 0, 0) := by decide +kernel
theorem k_249_16 : COD 249 16 = some (.ireturn, 1, 0, 0, 0, 0) := by decide +kernel
theorem k_249_17 : COD 249 17 = some (.iconst 0, 1, 0, 0, 0, 0) := by decide +kernel
theorem k_249_18 : COD 249 18 = some (.ireturn, 1, 0, 0, 0, 0) := by decide +kernel
theorem k_250_0 : COD 250 0 = some (.aload 4, 2, 0, 0, 0, 0) := by decide +kernel
theorem k_250_2 : COD 250 2 = some (.iconst 0, 1, 0, 0, 0, 0) := by decide +kernel
theorem k_250_3 : COD 250 3 = some (.aload_n 0, 1, 0, 0, 0, 0) := by decide +kernel
theorem k_250_4 : COD 250 4 = some (.iload_n 1, 1, 0, 0, 0, 0) := by decide +kernel
theorem k_250_5 : COD 250 5 = some (.iload_n 2, 1, 0, 0, 0, 0) := by decide +kernel
theorem k_250_6 : COD 250 6 = some (.iload_n 3, 1, 0, 0, 0, 0) := by decide +kernel
theorem k_250_7 : COD 250 7 = some (.invokevirtual 69, 3, 110, 3, 951, 7) := by decide +kernel
theorem k_250_10 : COD 250 10 = some (.i2l, 1, 0, 0, 0, 0) := by decide +kernel
theorem k_250_11 : COD 250 11 = some (.lastore, 1, 0, 0, 0, 0) := by decide +kernel
theorem k_250_12 : COD 250 12 = some (.goto 11, 3, 23, 0, 0, 0) := by decide +kernel
theorem k_250_15 : COD 250 15 = some (.astore 5, 2, 0, 0, 0, 0) := by decide +kernel
theorem k_250_17 : COD 250 17 = some (.iconst 1, 1, 0, 0, 0, 0) := by decide +kernel
theorem k_250_18 : COD 250 18 = some (.ireturn, 1, 0, 0, 0, 0) := by decide +kernel
theorem k_250_19 : COD 250 19 = some (.astore 5, 2, 0, 0, 0, 0) := by decide +kernel
theorem k_250_21 : COD 250 21 = some (.iconst 2, 1, 0, 0, 0, 0) := by decide +kernel
theorem k_250_22 : COD 250 22 = some (.ireturn, 1, 0, 0, 0, 0) := by decide +kernel
theorem k_250_23 : COD 250 23 = some (.iconst 0, 1, 0, 0, 0, 0) := by decide +kernel
theorem k_250_24 : COD 250 24 = some (.ireturn, 1, 0, 0, 0, 0) := by decide +kernel
theorem k_251_0 : COD 251 0 = some (.aload 4, 2, 0, 0, 0, 0) := by decide +kernel
theorem k_251_2 : COD 251 2 = some (.iconst 0, 1, 0, 0, 0, 0) := by decide +kernel
theorem k_251_3 : COD 251 3 = some (.aload_n 0, 1, 0, 0, 0, 0) := by decide +kernel
theorem k_251_4 : COD 251 4 = some (.iload_n 1, 1, 0, 0, 0, 0) := by decide +kernel
theorem k_251_5 : COD 251 5 = some (.iload_n 2, 1, 0, 0, 0, 0) := by decide +kernel
theorem k_251_6 : COD 251 6 = some (.iload_n 3, 1, 0, 0, 0, 0) := by decide +kernel
theorem k_251_7 : COD 251 7 = some (.invokevirtual 73, 3, 111, 3, 962, 7) := by decide +kernel
theorem k_251_10 : COD 251 10 = some (.lastore, 1, 0, 0, 0, 0) := by decide +kernel
theorem k_251_11 : COD 251 11 = some (.goto 11, 3, 22, 0, 0, 0) := by decide +kernel
theorem k_251_14 : COD 251 14 = some (.astore 5, 2, 0, 0, 0, 0) := by decide +kernel
theorem k_251_16 : COD 251 16 = some (.iconst 1, 1, 0, 0, 0, 0) := by decide +kernel
theorem k_251_17 : COD 251 17 = some (.ireturn, 1, 0, 0, 0, 0) := by decide +kernel
theorem k_251_18 : COD 251 18 = some (.astore 5, 2, 0, 0, 0, 0) := by decide +kernel
theorem k_251_20 : COD 251 20 = some (.iconst 2, 1, 0, 0, 0, 0) := by decide +kernel
theorem k_251_21 : COD 251 21 = some (.ireturn, 1, 0, 0, 0, 0) := by decide +kernel
theorem k_251_22 : COD 251 22 = some (.iconst 0, 1, 0, 0, 0, 0) := by decide +kernel
theorem k_251_23 : COD 251 23 = some (.ireturn, 1, 0, 0, 0, 0) := by decide +kernel
theorem k_252_0 : COD 252 0 = some (.aload_n 2, 1, 0, 0, 0, 0) := by decide +kernel
theorem k_252_1 : COD 252 1 = some (.iconst 0, 1, 0, 0, 0, 0) := by decide +kernel
theorem k_252_2 : COD 252 2 = some (.aload_n 0, 1, 0, 0, 0, 0) := by decide +kernel
theorem k_252_3 : COD 252 3 = some (.iload_n 1, 1, 0, 0, 0, 0) := by decide +kernel
theorem k_252_4 : COD 252 4 = some (.invokevirtual 77, 3, 112, 1, 969, 7) := by decide +kernel
theorem k_252_7 : COD 252 7 = some (.i2l, 1, 0, 0, 0, 0) := by decide +kernel
theorem k_252_8 : COD 252 8 = some (.lastore, 1, 0, 0, 0, 0) := by decide +kernel
theorem k_252_9 : COD 252 9 = some (.goto 6, 3, 15, 0, 0, 0) := by decide +kernel
theorem k_252_12 : COD 252 12 = some (.astore_n 3, 1, 0, 0, 0, 0) := by decide +kernel
theorem k_252_13 : COD 252 13 = some (.iconst 1, 1, 0, 0, 0, 0) := by decide +kernel
theorem k_252_14 : COD 252 14 = some (.ireturn, 1, 0, 0, 0, 0) := by decide +kernel
theorem k_252_15 : COD 252 15 = some (.iconst 0, 1, 0, 0, 0, 0) := by decide +kernel
theorem k_252_16 : COD 252 16 = some (.ireturn, 1, 0, 0, 0, 0) := by decide +kernel
theorem k_253_0 : COD 253 0 = some (.aload_n 2, 1, 0, 0, 0, 0) := by decide +kernel
theorem k_253_1 : COD 253 1 = some (.iconst 0, 1, 0, 0, 0, 0) := by decide +kernel
theorem k_253_2 : COD 253 2 = some (.aload_n 0, 1, 0, 0, 0, 0) := by decide +kernel
theorem k_253_3 : COD 253 3 = some (.iload_n 1, 1, 0, 0, 0, 0) := by decide +kernel
theorem k_253_4 : COD 253 4 = some (.invokevirtual 80, 3, 113, 1, 1020, 7) := by decide +kernel
theorem k_253_7 : COD 253 7 = some (.lastore, 1, 0, 0, 0, 0) := by decide +kernel
theorem k_253_8 : COD 253 8 = some (.goto 6, 3, 14, 0, 0, 0) := by decide +kernel
theorem k_253_11 : COD 253 11 = some (.astore_n 3, 1, 0, 0, 0, 0) := by decide +kernel
theorem k_253_12 : COD 253 12 = some (.iconst 1, 1, 0, 0, 0, 0) := by decide +kernel
theorem k_253_13 : COD 253 13 = some (.ireturn, 1, 0, 0, 0, 0) := by decide +kernel
theorem k_253_14 : COD 253 14 = some (.iconst 0, 1, 0, 0, 0, 0) := by decide +kernel
theorem k_253_15 : COD 253 15 = some (.ireturn, 1, 0, 0, 0, 0) := by decide +kernel
theorem k_254_0 : COD 254 0 = some (.aload_n 2, 1, 0, 0, 0, 0) := by decide +kernel
theorem k_254_1 : COD 254 1 = some (.iconst 0, 1, 0, 0, 0, 0) := by decide +kernel
theorem k_254_2 : COD 254 2 = some (.aload_n 0, 1, 0, 0, 0, 0) := by decide +kernel
theorem k_254_3 : COD 254 3 = some (.iload_n 1, 1, 0, 0, 0, 0) := by decide +kernel
theorem k_254_4 : COD 254 4 = some (.invokevirtual 83, 3, 114, 1, 1027, 7) := by decide +kernel
theorem k_254_7 : COD 254 7 = some (.i2l, 1, 0, 0, 0, 0) := by decide +kernel
theorem k_254_8 : COD 254 8 = some (.lastore, 1, 0, 0, 0, 0) := by decide +kernel
theorem k_254_9 : COD 254 9 = some (.goto 6, 3, 15, 0, 0, 0) := by decide +kernel
theorem k_254_12 : COD 254 12 = some (.astore_n 3, 1, 0, 0, 0, 0) := by decide +kernel
theorem k_254_13 : COD 254 13 = some (.iconst 1, 1, 0, 0, 0, 0) := by decide +kernel
theorem k_254_14 : COD 254 14 = some (.ireturn, 1, 0, 0, 0, 0) := by decide +kernel
theorem k_254_15 : COD 254 15 = some (.iconst 0, 1, 0, 0, 0, 0) := by decide +kernel
theorem k_254_16 : COD 254 16 = some (.ireturn, 1, 0, 0, 0, 0) := by decide +kernel
theorem k_255_0 : COD 255 0 = some (.aload_n 3, 1, 0, 0, 0, 0) := by decide +kernel
theorem k_255_1 : COD 255 1 = some (.iconst 0, 1, 0, 0, 0, 0) := by decide +kernel
theorem k_255_2 : COD 255 2 = some (.aload_n 0, 1, 0, 0, 0, 0) := by decide +kernel
theorem k_255_3 : COD 255 3 = some (.iload_n 1, 1, 0, 0, 0, 0) := by decide +kernel
theorem k_255_4 : COD 255 4 = some (.iload_n 2, 1, 0, 0, 0, 0) := by decide +kernel
theorem k_255_5 : COD 255 5 = some (.invokevirtual 86, 3, 115, 2, 1034, 7) := by decide +kernel
theorem k_255_8 : COD 255 8 = some (.i2l, 1, 0, 0, 0, 0) := by decide +kernel
theorem k_255_9 : COD 255 9 = some (.lastore, 1, 0, 0, 0, 0) := by decide +kernel
theorem k_255_10 : COD 255 10 = some (.goto 7, 3, 17, 0, 0, 0) := by decide +kernel
theorem k_255_13 : COD 255 13 = some (.astore 4, 2, 0, 0, 0, 0) := by decide +kernel
theorem k_255_15 : COD 255 15 = some (.iconst 1, 1, 0, 0, 0, 0) := by decide +kernel
theorem k_255_16 : COD 255 16 = some (.ireturn, 1, 0, 0, 0, 0) := by decide +kernel
theorem k_255_17 : COD 255 17 = some (.iconst 0, 1, 0, 0, 0, 0) := by decide +kernel
theorem k_255_18 : COD 255 18 = some (.ireturn, 1, 0, 0, 0, 0) := by decide +kernel
theorem k_256_0 : COD 256 0 = some (.aload_n 3, 1, 0, 0, 0, 0) := by decide +kernel
theorem k_256_1 : COD 256 1 = some (.iconst 0, 1, 0, 0, 0, 0) := by decide +kernel
theorem k_256_2 : COD 256 2 = some (.aload_n 0, 1, 0, 0, 0, 0) := by decide +kernel
theorem k_256_3 : COD 256 3 = some (.iload_n 1, 1, 0, 0, 0, 0) := by decide +kernel
theorem k_256_4 : COD 256 4 = some (.iload_n 2, 1, 0, 0, 0, 0) := by decide +kernel
theorem k_256_5 : COD 256 5 = some (.invokevirtual 89, 3, 116, 2, 1041, 7) := by decide +kernel
theorem k_256_8 : COD 256 8 = some (.i2l, 1, 0, 0, 0, 0) := by decide +kernel
theorem k_256_9 : COD 256 9 = some (.lastore, 1, 0, 0, 0, 0) := by decide +kernel
theorem k_256_10 : COD 256 10 = some (.goto 7, 3, 17, 0, 0, 0) := by decide +kernel
theorem k_256_13 : COD 256 13 = some (.astore 4, 2, 0, 0, 0, 0) := by decide +kernel
theorem k_256_15 : COD 256 15 = some (.iconst 1, 1, 0, 0, 0, 0) := by decide +kernel
theorem k_256_16 : COD 256 16 = some (.ireturn, 1, 0, 0, 0, 0) := by decide +kernel
theorem k_256_17 : COD 256 17 = some (.iconst 0, 1, 0, 0, 0, 0) := by decide +kernel
theorem k_256_18 : COD 256 18 = some (.ireturn, 1, 0, 0, 0, 0) := by decide +kernel
theorem k_257_0 : COD 257 0 = some (.new 8, 3, 7, 0, 101, 0) := by decide +kernel
theorem k_257_3 : COD 257 3 = some (.dup, 1, 0, 0, 0, 0) := by decide +kernel
theorem k_257_4 : COD 257 4 = some (.invokespecial 92, 3, 83, 0, 103, 7) := by decide +kernel
theorem k_257_7 : COD 257 7 = some (.astore_n 1, 1, 0, 0, 0, 0) := by decide +kernel
theorem k_257_8 : COD 257 8 = some (.new 93, 3, 10, 0, 1049, 0) := by decide +kernel
theorem k_257_11 : COD 257 11 = some (.dup, 1, 0, 0, 0, 0) := by decide +kernel
theorem k_257_12 : COD 257 12 = some (.invokespecial 95, 3, 127, 0, 1051, 10) := by decide +kernel
theorem k_257_15 : COD 257 15 = some (.astore_n 2, 1, 0, 0, 0, 0) := by decide +kernel
theorem k_257_16 : COD 257 16 = some (.iconst 1, 1, 0, 0, 0, 0) := by decide +kernel
theorem k_257_17 : COD 257 17 = some (.newarray .long, 2, 0, 0, 0, 0) := by decide +kernel
theorem k_257_19 : COD 257 19 = some (.astore_n 3, 1, 0, 0, 0, 0) := by decide +kernel
theorem k_257_20 : COD 257 20 = some (.iconst 0, 1, 0, 0, 0, 0) := by decide +kernel
theorem k_257_21 : COD 257 21 = some (.istore 4, 2, 0, 0, 0, 0) := by decide +kernel
theorem k_257_23 : COD 257 23 = some (.iload 4, 2, 0, 0, 0, 0) := by decide +kernel
theorem k_257_25 : COD 257 25 = some (.aload_n 0, 1, 0, 0, 0, 0) := by decide +kernel
theorem k_257_26 : COD 257 26 = some (.arraylength, 1, 0, 0, 0, 0) := by decide +kernel
theorem k_257_27 : COD 257 27 = some (.bipush 6, 2, 0, 0, 0, 0) := by decide +kernel
theorem k_257_29 : COD 257 29 = some (.isub, 1, 0, 0, 0, 0) := by decide +kernel
theorem k_257_30 : COD 257 30 = some (.if_icmp .gt 1828, 3, 1858, 0, 0, 0) := by decide +kernel
theorem k_257_33 : COD 257 33 = some (.aload_n 0, 1, 0, 0, 0, 0) := by decide +kernel
theorem k_257_34 : COD 257 34 = some (.iload 4, 2, 0, 0, 0, 0) := by decide +kernel
theorem k_257_36 : COD 257 36 = some (.iaload, 1, 0, 0, 0, 0) := by decide +kernel
theorem k_257_37 : COD 257 37 = some (.bipush 63, 2, 0, 0, 0, 0) := by decide +kernel
theorem k_257_39 : COD 257 39 = some (.iand, 1, 0, 0, 0, 0) := by decide +kernel
theorem k_257_40 : COD 257 40 = some (.tableswitch 1812 0 34 #[156, 260, 316, 329, 342, 355, 368, 381, 394, 407, 420, 476, 532, 587, 643, 699, 755, 818, 874, 930, 986, 1054, 1121, 1189, 1257, 1282, 1295, 1375, 1454, 1510, 1565, 1621, 1689, 1757, 1798], 156, 0, 0, 0, 0) := by decide +kernel
theorem k_257_196 : COD 257 196 = some (.aload_n 1, 1, 0, 0, 0, 0) := by decide +kernel
theorem k_257_197 : COD 257 197 = some (.aload_n 0, 1, 0, 0, 0, 0) := by decide +kernel
theorem k_257_198 : COD 257 198 = some (.iload 4, 2, 0, 0, 0, 0) := by decide +kernel
theorem k_257_200 : COD 257 200 = some (.iconst 1, 1, 0, 0, 0, 0) := by decide +kernel
theorem k_257_201 : COD 257 201 = some (.iadd, 1, 0, 0, 0, 0) := by decide +kernel
theorem k_257_202 : COD 257 202 = some (.iaload, 1, 0, 0, 0, 0) := by decide +kernel
theorem k_257_203 : COD 257 203 = some (.aload_n 0, 1, 0, 0, 0, 0) := by decide +kernel
theorem k_257_204 : COD 257 204 = some (.iload 4, 2, 0, 0, 0, 0) := by decide +kernel
theorem k_257_206 : COD 257 206 = some (.iconst 2, 1, 0, 0, 0, 0) := by decide +kernel
theorem k_257_207 : COD 257 207 = some (.iadd, 1, 0, 0, 0, 0) := by decide +kernel
theorem k_257_208 : COD 257 208 = some (.iaload, 1, 0, 0, 0, 0) := by decide +kernel
theorem k_257_209 : COD 257 209 = some (.aload_n 0, 1, 0, 0, 0, 0) := by decide +kernel
theorem k_257_210 : COD 257 210 = some (.iload 4, 2, 0, 0, 0, 0) := by decide +kernel
theorem k_257_212 : COD 257 212 = some (.iconst 3, 1, 0, 0, 0, 0) := by decide +kernel
theorem k_257_213 : COD 257 213 = some (.iadd, 1, 0, 0, 0, 0) := by decide +kernel
theorem k_257_214 : COD 257 214 = some (.iaload, 1, 0, 0, 0, 0) := by decide +kernel
theorem k_257_215 : COD 257 215 = some (.aload_n 0, 1, 0, 0, 0, 0) := by decide +kernel
theorem k_257_216 : COD 257 216 = some (.iload 4, 2, 0, 0, 0, 0) := by decide +kernel
theorem k_257_218 : COD 257 218 = some (.iconst 4, 1, 0, 0, 0, 0) := by decide +kernel
theorem k_257_219 : COD 257 219 = some (.iadd, 1, 0, 0, 0, 0) := by decide +kernel
theorem k_257_220 : COD 257 220 = some (.iaload, 1, 0, 0, 0, 0) := by decide +kernel
theorem k_257_221 : COD 257 221 = some (.aload_n 0, 1, 0, 0, 0, 0) := by decide +kernel
theorem k_257_222 : COD 257 222 = some (.iload 4, 2, 0, 0, 0, 0) := by decide +kernel
theorem k_257_224 : COD 257 224 = some (.iconst 5, 1, 0, 0, 0, 0) := by decide +kernel
theorem k_257_225 : COD 257 225 = some (.iadd, 1, 0, 0, 0, 0) := by decide +kernel
theorem k_257_226 : COD 257 226 = some (.iaload, 1, 0, 0, 0, 0) := by decide +kernel
theorem k_257_227 : COD 257 227 = some (.aload_n 3, 1, 0, 0, 0, 0) := by decide +kernel
theorem k_257_228 : COD 257 228 = some (.invokestatic 96, 3, 234, 7, 673, 0) := by decide +kernel
theorem k_257_231 : COD 257 231 = some (.istore 5, 2, 0, 0, 0, 0) := by decide +kernel
theorem k_257_233 : COD 257 233 = some (.aload_n 2, 1, 0, 0, 0, 0) := by decide +kernel
theorem k_257_234 : COD 257 234 = some (.aload_n 0, 1, 0, 0, 0, 0) := by decide +kernel
theorem k_257_235 : COD 257 235 = some (.iload 4, 2, 0, 0, 0, 0) := by decide +kernel
theorem k_257_237 : COD 257 237 = some (.iconst 1, 1, 0, 0, 0, 0) := by decide +kernel
theorem k_257_238 : COD 257 238 = some (.iadd, 1, 0, 0, 0, 0) := by decide +kernel
theorem k_257_239 : COD 257 239 = some (.iaload, 1, 0, 0, 0, 0) := by decide +kernel
theorem k_257_240 : COD 257 240 = some (.aload_n 0, 1, 0, 0, 0, 0) := by decide +kernel
theorem k_257_241 : COD 257 241 = some (.iload 4, 2, 0, 0, 0, 0) := by decide +kernel
theorem k_257_243 : COD 257 243 = some (.iconst 2, 1, 0, 0, 0, 0) := by decide +kernel
theorem k_257_244 : COD 257 244 = some (.iadd, 1, 0, 0, 0, 0) := by decide +kernel
theorem k_257_245 : COD 257 245 = some (.iaload, 1, 0, 0, 0, 0) := by decide +kernel
theorem k_257_246 : COD 257 246 = some (.aload_n 0, 1, 0, 0, 0, 0) := by decide +kernel
theorem k_257_247 : COD 257 247 = some (.iload 4, 2, 0, 0, 0, 0) := by decide +kernel
theorem k_257_249 : COD 257 249 = some (.iconst 3, 1, 0, 0, 0, 0) := by decide +kernel
theorem k_257_250 : COD 257 250 = some (.iadd, 1, 0, 0, 0, 0) := by decide +kernel
theorem k_257_251 : COD 257 251 = some (.iaload, 1, 0, 0, 0, 0) := by decide +kernel
theorem k_257_252 : COD 257 252 = some (.aload_n 0, 1, 0, 0, 0, 0) := by decide +kernel
theorem k_257_253 : COD 257 253 = some (.iload 4, 2, 0, 0, 0, 0) := by decide +kernel
theorem k_257_255 : COD 257 255 = some (.iconst 4, 1, 0, 0, 0, 0) := by decide +kernel
theorem k_257_256 : COD 257 256 = some (.iadd, 1, 0, 0, 0, 0) := by decide +kernel
theorem k_257_257 : COD 257 257 = some (.iaload, 1, 0, 0, 0, 0) := by decide +kernel
theorem k_257_258 : COD 257 258 = some (.aload_n 0, 1, 0, 0, 0, 0) := by decide +kernel
theorem k_257_259 : COD 257 259 = some (.iload 4, 2, 0, 0, 0, 0) := by decide +kernel
theorem k_257_261 : COD 257 261 = some (.iconst 5, 1, 0, 0, 0, 0) := by decide +kernel
theorem k_257_262 : COD 257 262 = some (.iadd, 1, 0, 0, 0, 0) := by decide +kernel
theorem k_257_263 : COD 257 263 = some (.iaload, 1, 0, 0, 0, 0) := by decide +kernel
theorem k_257_264 : COD 257 264 = some (.invokevirtual 101, 3, 184, 5, 1209, 10) := by decide +kernel
theorem k_257_267 : COD 257 267 = some (.istore 6, 2, 0, 0, 0, 0) := by decide +kernel
theorem k_257_269 : COD 257 269 = some (.aload_n 2, 1, 0, 0, 0, 0) := by decide +kernel
theorem k_257_270 : COD 257 270 = some (.invokevirtual 102, 3, 128, 0, 1205, 10) := by decide +kernel
theorem k_257_273 : COD 257 273 = some (.iload 5, 2, 0, 0, 0, 0) := by decide +kernel
theorem k_257_275 : COD 257 275 = some (.if_icmp .eq 5, 3, 280, 0, 0, 0) := by decide +kernel
theorem k_257_278 : COD 257 278 = some (.iconst 0, 1, 0, 0, 0, 0) := by decide +kernel
theorem k_257_279 : COD 257 279 = some (.ireturn, 1, 0, 0, 0, 1) := by decide +kernel
theorem k_257_280 : COD 257 280 = some (.iload 5, 2, 0, 0, 0, 0) := by decide +kernel
theorem k_257_282 : COD 257 282 = some (.ifCond .ne 15, 3, 297, 0, 0, 0) := by decide +kernel
theorem k_257_285 : COD 257 285 = some (.aload_n 3, 1, 0, 0, 0, 0) := by decide +kernel
theorem k_257_286 : COD 257 286 = some (.iconst 0, 1, 0, 0, 0, 0) := by decide +kernel
theorem k_257_287 : COD 257 287 = some (.laload, 1, 0, 0, 0, 0) := by decide +kernel
theorem k_257_288 : COD 257 288 = some (.iload 6, 2, 0, 0, 0, 0) := by decide +kernel
theorem k_257_290 : COD 257 290 = some (.i2l, 1, 0, 0, 0, 0) := by decide +kernel
theorem k_257_291 : COD 257 291 = some (.lcmp, 1, 0, 0, 0, 0) := by decide +kernel
theorem k_257_292 : COD 257 292 = some (.ifCond .eq 5, 3, 297, 0, 0, 0) := by decide +kernel
theorem k_257_295 : COD 257 295 = some (.iconst 0, 1, 0, 0, 0, 0) := by decide +kernel
theorem k_257_296 : COD 257 296 = some (.ireturn, 1, 0, 0, 0, 1) := by decide +kernel
theorem k_257_297 : COD 257 297 = some (.goto 1555, 3, 1852, 0, 0, 0) := by decide +kernel
theorem k_257_300 : COD 257 300 = some (.aload_n 1, 1, 0, 0, 0, 0) := by decide +kernel
theorem k_257_301 : COD 257 301 = some (.aload_n 0, 1, 0, 0, 0, 0) := by decide +kernel
theorem k_257_302 : COD 257 302 = some (.iload 4, 2, 0, 0, 0, 0) := by decide +kernel
theorem k_257_304 : COD 257 304 = some (.iconst 1, 1, 0, 0, 0, 0) := by decide +kernel
theorem k_257_305 : COD 257 305 = some (.iadd, 1, 0, 0, 0, 0) := by decide +kernel
theorem k_257_306 : COD 257 306 = some (.iaload, 1, 0, 0, 0, 0) := by decide +kernel
theorem k_257_307 : COD 257 307 = some (.aload_n 3, 1, 0, 0, 0, 0) := by decide +kernel
theorem k_257_308 : COD 257 308 = some (.invokestatic 106, 3, 235, 3, 753, 0) := by decide +kernel
theorem k_257_311 : COD 257 311 = some (.istore 5, 2, 0, 0, 0, 0) := by decide +kernel
theorem k_257_313 : COD 257 313 = some (.aload_n 2, 1, 0, 0, 0, 0) := by decide +kernel
theorem k_257_314 : COD 257 314 = some (.aload_n 0, 1, 0, 0, 0, 0) := by decide +kernel
theorem k_257_315 : COD 257 315 = some (.iload 4, 2, 0, 0, 0, 0) := by decide +kernel
theorem k_257_317 : COD 257 317 = some (.iconst 1, 1, 0, 0, 0, 0) := by decide +kernel
theorem k_257_318 : COD 257 318 = some (.iadd, 1, 0, 0, 0, 0) := by decide +kernel
theorem k_257_319 : COD 257 319 = some (.iaload, 1, 0, 0, 0, 0) := by decide +kernel
theorem k_257_320 : COD 257 320 = some (.invokevirtual 109, 3, 185, 1, 1217, 10) := by decide +kernel
theorem k_257_323 : COD 257 323 = some (.istore 6, 2, 0, 0, 0, 0) := by decide +kernel
theorem k_257_325 : COD 257 325 = some (.aload_n 2, 1, 0, 0, 0, 0) := by decide +kernel
theorem k_257_326 : COD 257 326 = some (.invokevirtual 102, 3, 128, 0, 1205, 10) := by decide +kernel
theorem k_257_329 : COD 257 329 = some (.iload 5, 2, 0, 0, 0, 0) := by decide +kernel
theorem k_257_331 : COD 257 331 = some (.if_icmp .eq 5, 3, 336, 0, 0, 0) := by decide +kernel
theorem k_257_334 : COD 257 334 = some (.iconst 0, 1, 0, 0, 0, 0) := by decide +kernel
theorem k_257_335 : COD 257 335 = some (.ireturn, 1, 0, 0, 0, 1) := by decide +kernel
theorem k_257_336 : COD 257 336 = some (.iload 5, 2, 0, 0, 0, 0) := by decide +kernel
theorem k_257_338 : COD 257 338 = some (.ifCond .ne 15, 3, 353, 0, 0, 0) := by decide +kernel
theorem k_257_341 : COD 257 341 = some (.aload_n 3, 1, 0, 0, 0, 0) := by decide +kernel
theorem k_257_342 : COD 257 342 = some (.iconst 0, 1, 0, 0, 0, 0) := by decide +kernel
theorem k_257_343 : COD 257 343 = some (.laload, 1, 0, 0, 0, 0) := by decide +kernel
theorem k_257_344 : COD 257 344 = some (.iload 6, 2, 0, 0, 0, 0) := by decide +kernel
theorem k_257_346 : COD 257 346 = some (.i2l, 1, 0, 0, 0, 0) := by decide +kernel
theorem k_257_347 : COD 257 347 = some (.lcmp, 1, 0, 0, 0, 0) := by decide +kernel
theorem k_257_348 : COD 257 348 = some (.ifCond .eq 5, 3, 353, 0, 0, 0) := by decide +kernel
theorem k_257_351 : COD 257 351 = some (.iconst 0, 1, 0, 0, 0, 0) := by decide +kernel
theorem k_257_352 : COD 257 352 = some (.ireturn, 1, 0, 0, 0, 1) := by decide +kernel
theorem k_257_353 : COD 257 353 = some (.goto 1499, 3, 1852, 0, 0, 0) := by decide +kernel
theorem k_257_356 : COD 257 356 = some (.aload_n 1, 1, 0, 0, 0, 0) := by decide +kernel
theorem k_257_357 : COD 257 357 = some (.invokevirtual 110, 3, 86, 0, 361, 7) := by decide +kernel
theorem k_257_360 : COD 257 360 = some (.aload_n 2, 1, 0, 0, 0, 0) := by decide +kernel
theorem k_257_361 : COD 257 361 = some (.invokevirtual 113, 3, 186, 0, 1224, 10) := by decide +kernel
theorem k_257_364 : COD 257 364 = some (.if_icmp .eq 1488, 3, 1852, 0, 0, 0) := by decide +kernel
theorem k_257_367 : COD 257 367 = some (.iconst 0, 1, 0, 0, 0, 0) := by decide +kernel
theorem k_257_368 : COD 257 368 = some (.ireturn, 1, 0, 0, 0, 1) := by decide +kernel
theorem k_257_369 : COD 257 369 = some (.aload_n 1, 1, 0, 0, 0, 0) := by decide +kernel
theorem k_257_370 : COD 257 370 = some (.invokevirtual 114, 3, 87, 0, 570, 7) := by decide +kernel
theorem k_257_373 : COD 257 373 = some (.aload_n 2, 1, 0, 0, 0, 0) := by decide +kernel
theorem k_257_374 : COD 257 374 = some (.invokevirtual 117, 3, 187, 0, 1338, 10) := by decide +kernel
theorem k_257_377 : COD 257 377 = some (.if_icmp .eq 1475, 3, 1852, 0, 0, 0) := by decide +kernel
theorem k_257_380 : COD 257 380 = some (.iconst 0, 1, 0, 0, 0, 0) := by decide +kernel
theorem k_257_381 : COD 257 381 = some (.ireturn, 1, 0, 0, 0, 1) := by decide +kernel
theorem k_257_382 : COD 257 382 = some (.aload_n 1, 1, 0, 0, 0, 0) := by decide +kernel
theorem k_257_383 : COD 257 383 = some (.invokevirtual 118, 3, 88, 0, 574, 7) := by decide +kernel
theorem k_257_386 : COD 257 386 = some (.aload_n 2, 1, 0, 0, 0, 0) := by decide +kernel
theorem k_257_387 : COD 257 387 = some (.invokevirtual 121, 3, 188, 0, 1346, 10) := by decide +kernel
theorem k_257_390 : COD 257 390 = some (.if_icmp .eq 1462, 3, 1852, 0, 0, 0) := by decide +kernel
theorem k_257_393 : COD 257 393 = some (.iconst 0, 1, 0, 0, 0, 0) := by decide +kernel
theorem k_257_394 : COD 257 394 = some (.ireturn, 1, 0, 0, 0, 1) := by decide +kernel
theorem k_257_395 : COD 257 395 = some (.aload_n 1, 1, 0, 0, 0, 0) := by decide +kernel
theorem k_257_396 : COD 257 396 = some (.invokevirtual 122, 3, 89, 0, 578, 7) := by decide +kernel
theorem k_257_399 : COD 257 399 = some (.aload_n 2, 1, 0, 0, 0, 0) := by decide +kernel
theorem k_257_400 : COD 257 400 = some (.invokevirtual 125, 3, 189, 0, 1350, 10) := by decide +kernel
theorem k_257_403 : COD 257 403 = some (.if_icmp .eq 1449, 3, 1852, 0, 0, 0) := by decide +kernel
theorem k_257_406 : COD 257 406 = some (.iconst 0, 1, 0, 0, 0, 0) := by decide +kernel
theorem k_257_407 : COD 257 407 = some (.ireturn, 1, 0, 0, 0, 1) := by decide +kernel
theorem k_257_408 : COD 257 408 = some (.aload_n 1, 1, 0, 0, 0, 0) := by decide +kernel
theorem k_257_409 : COD 257 409 = some (.invokevirtual 126, 3, 90, 0, 594, 7) := by decide +kernel
theorem k_257_412 : COD 257 412 = some (.aload_n 2, 1, 0, 0, 0, 0) := by decide +kernel
theorem k_257_413 : COD 257 413 = some (.invokevirtual 129, 3, 190, 0, 1354, 10) := by decide +kernel
theorem k_257_416 : COD 257 416 = some (.if_icmp .eq 1436, 3, 1852, 0, 0, 0) := by decide +kernel
theorem k_257_419 : COD 257 419 = some (.iconst 0, 1, 0, 0, 0, 0) := by decide +kernel
theorem k_257_420 : COD 257 420 = some (.ireturn, 1, 0, 0, 0, 1) := by decide +kernel
theorem k_257_421 : COD 257 421 = some (.aload_n 1, 1, 0, 0, 0, 0) := by decide +kernel
theorem k_257_422 : COD 257 422 = some (.invokevirtual 130, 3, 91, 0, 598, 7) := by decide +kernel
theorem k_257_425 : COD 257 425 = some (.aload_n 2, 1, 0, 0, 0, 0) := by decide +kernel
theorem k_257_426 : COD 257 426 = some (.invokevirtual 133, 3, 191, 0, 1358, 10) := by decide +kernel
theorem k_257_429 : COD 257 429 = some (.if_icmp .eq 1423, 3, 1852, 0, 0, 0) := by decide +kernel
theorem k_257_432 : COD 257 432 = some (.iconst 0, 1, 0, 0, 0, 0) := by decide +kernel
theorem k_257_433 : COD 257 433 = some (.ireturn, 1, 0, 0, 0, 1) := by decide +kernel
theorem k_257_434 : COD 257 434 = some (.aload_n 1, 1, 0, 0, 0, 0) := by decide +kernel
theorem k_257_435 : COD 257 435 = some (.invokevirtual 134, 3, 92, 0, 602, 7) := by decide +kernel
theorem k_257_438 : COD 257 438 = some (.aload_n 2, 1, 0, 0, 0, 0) := by decide +kernel
theorem k_257_439 : COD 257 439 = some (.invokevirtual 137, 3, 192, 0, 1362, 10) := by decide +kernel
theorem k_257_442 : COD 257 442 = some (.if_icmp .eq 1410, 3, 1852, 0, 0, 0) := by decide +kernel
theorem k_257_445 : COD 257 445 = some (.iconst 0, 1, 0, 0, 0, 0) := by decide +kernel
theorem k_257_446 : COD 257 446 = some (.ireturn, 1, 0, 0, 0, 1) := by decide +kernel
theorem k_257_447 : COD 257 447 = some (.aload_n 1, 1, 0, 0, 0, 0) := by decide +kernel
theorem k_257_448 : COD 257 448 = some (.invokevirtual 138, 3, 93, 0, 606, 7) := by decide +kernel
theorem k_257_451 : COD 257 451 = some (.aload_n 2, 1, 0, 0, 0, 0) := by decide +kernel
theorem k_257_452 : COD 257 452 = some (.invokevirtual 141, 3, 193, 0, 1366, 10) := by decide +kernel
theorem k_257_455 : COD 257 455 = some (.if_icmp .eq 1397, 3, 1852, 0, 0, 0) := by decide +kernel
theorem k_257_458 : COD 257 458 = some (.iconst 0, 1, 0, 0, 0, 0) := by decide +kernel
theorem k_257_459 : COD 257 459 = some (.ireturn, 1, 0, 0, 0, 1) := by decide +kernel
theorem k_257_460 : COD 257 460 = some (.aload_n 1, 1, 0, 0, 0, 0) := by decide +kernel
theorem k_257_461 : COD 257 461 = some (.aload_n 0, 1, 0, 0, 0, 0) := by decide +kernel
theorem k_257_462 : COD 257 462 = some (.iload 4, 2, 0, 0, 0, 0) := by decide +kernel
theorem k_257_464 : COD 257 464 = some (.iconst 1, 1, 0, 0, 0, 0) := by decide +kernel
theorem k_257_465 : COD 257 465 = some (.iadd, 1, 0, 0, 0, 0) := by decide +kernel
theorem k_257_466 : COD 257 466 = some (.iaload, 1, 0, 0, 0, 0) := by decide +kernel
theorem k_257_467 : COD 257 467 = some (.aload_n 3, 1, 0, 0, 0, 0) := by decide +kernel
theorem k_257_468 : COD 257 468 = some (.invokestatic 142, 3, 236, 3, 777, 0) := by decide +kernel
theorem k_257_471 : COD 257 471 = some (.istore 5, 2, 0, 0, 0, 0) := by decide +kernel
theorem k_257_473 : COD 257 473 = some (.aload_n 2, 1, 0, 0, 0, 0) := by decide +kernel
theorem k_257_474 : COD 257 474 = some (.aload_n 0, 1, 0, 0, 0, 0) := by decide +kernel
theorem k_257_475 : COD 257 475 = some (.iload 4, 2, 0, 0, 0, 0) := by decide +kernel
theorem k_257_477 : COD 257 477 = some (.iconst 1, 1, 0, 0, 0, 0) := by decide +kernel
theorem k_257_478 : COD 257 478 = some (.iadd, 1, 0, 0, 0, 0) := by decide +kernel
theorem k_257_479 : COD 257 479 = some (.iaload, 1, 0, 0, 0, 0) := by decide +kernel
theorem k_257_480 : COD 257 480 = some (.invokevirtual 144, 3, 195, 1, 1382, 10) := by decide +kernel
theorem k_257_483 : COD 257 483 = some (.istore 6, 2, 0, 0, 0, 0) := by decide +kernel
theorem k_257_485 : COD 257 485 = some (.aload_n 2, 1, 0, 0, 0, 0) := by decide +kernel
theorem k_257_486 : COD 257 486 = some (.invokevirtual 102, 3, 128, 0, 1205, 10) := by decide +kernel
theorem k_257_489 : COD 257 489 = some (.iload 5, 2, 0, 0, 0, 0) := by decide +kernel
theorem k_257_491 : COD 257 491 = some (.if_icmp .eq 5, 3, 496, 0, 0, 0) := by decide +kernel
theorem k_257_494 : COD 257 494 = some (.iconst 0, 1, 0, 0, 0, 0) := by decide +kernel
theorem k_257_495 : COD 257 495 = some (.ireturn, 1, 0, 0, 0, 1) := by decide +kernel
theorem k_257_496 : COD 257 496 = some (.iload 5, 2, 0, 0, 0, 0) := by decide +kernel
theorem k_257_498 : COD 257 498 = some (.ifCond .ne 15, 3, 513, 0, 0, 0) := by decide +kernel
theorem k_257_501 : COD 257 501 = some (.aload_n 3, 1, 0, 0, 0, 0) := by decide +kernel
theorem k_257_502 : COD 257 502 = some (.iconst 0, 1, 0, 0, 0, 0) := by decide +kernel
theorem k_257_503 : COD 257 503 = some (.laload, 1, 0, 0, 0, 0) := by decide +kernel
theorem k_257_504 : COD 257 504 = some (.iload 6, 2, 0, 0, 0, 0) := by decide +kernel
theorem k_257_506 : COD 257 506 = some (.i2l, 1, 0, 0, 0, 0) := by decide +kernel
theorem k_257_507 : COD 257 507 = some (.lcmp, 1, 0, 0, 0, 0) := by decide +kernel
theorem k_257_508 : COD 257 508 = some (.ifCond .eq 5, 3, 513, 0, 0, 0) := by decide +kernel
theorem k_257_511 : COD 257 511 = some (.iconst 0, 1, 0, 0, 0, 0) := by decide +kernel
theorem k_257_512 : COD 257 512 = some (.ireturn, 1, 0, 0, 0, 1) := by decide +kernel
theorem k_257_513 : COD 257 513 = some (.goto 1339, 3, 1852, 0, 0, 0) := by decide +kernel
theorem k_257_516 : COD 257 516 = some (.aload_n 1, 1, 0, 0, 0, 0) := by decide +kernel
theorem k_257_517 : COD 257 517 = some (.aload_n 0, 1, 0, 0, 0, 0) := by decide +kernel
theorem k_257_518 : COD 257 518 = some (.iload 4, 2, 0, 0, 0, 0) := by decide +kernel
theorem k_257_520 : COD 257 520 = some (.iconst 1, 1, 0, 0, 0, 0) := by decide +kernel
theorem k_257_521 : COD 257 521 = some (.iadd, 1, 0, 0, 0, 0) := by decide +kernel
theorem k_257_522 : COD 257 522 = some (.iaload, 1, 0, 0, 0, 0) := by decide +kernel
theorem k_257_523 : COD 257 523 = some (.aload_n 3, 1, 0, 0, 0, 0) := by decide +kernel
theorem k_257_524 : COD 257 524 = some (.invokestatic 145, 3, 237, 3, 805, 0) := by decide +kernel
theorem k_257_527 : COD 257 527 = some (.istore 5, 2, 0, 0, 0, 0) := by decide +kernel
theorem k_257_529 : COD 257 529 = some (.aload_n 2, 1, 0, 0, 0, 0) := by decide +kernel
theorem k_257_530 : COD 257 530 = some (.aload_n 0, 1, 0, 0, 0, 0) := by decide +kernel
theorem k_257_531 : COD 257 531 = some (.iload 4, 2, 0, 0, 0, 0) := by decide +kernel
theorem k_257_533 : COD 257 533 = some (.iconst 1, 1, 0, 0, 0, 0) := by decide +kernel
theorem k_257_534 : COD 257 534 = some (.iadd, 1, 0, 0, 0, 0) := by decide +kernel
theorem k_257_535 : COD 257 535 = some (.iaload, 1, 0, 0, 0, 0) := by decide +kernel
theorem k_257_536 : COD 257 536 = some (.invokevirtual 147, 3, 196, 1, 1390, 10) := by decide +kernel
theorem k_257_539 : COD 257 539 = some (.istore 6, 2, 0, 0, 0, 0) := by decide +kernel
theorem k_257_541 : COD 257 541 = some (.aload_n 2, 1, 0, 0, 0, 0) := by decide +kernel
theorem k_257_542 : COD 257 542 = some (.invokevirtual 102, 3, 128, 0, 1205, 10) := by decide +kernel
theorem k_257_545 : COD 257 545 = some (.iload 5, 2, 0, 0, 0, 0) := by decide +kernel
theorem k_257_547 : COD 257 547 = some (.if_icmp .eq 5, 3, 552, 0, 0, 0) := by decide +kernel
theorem k_257_550 : COD 257 550 = some (.iconst 0, 1, 0, 0, 0, 0) := by decide +kernel
theorem k_257_551 : COD 257 551 = some (.ireturn, 1, 0, 0, 0, 1) := by decide +kernel
theorem k_257_552 : COD 257 552 = some (.iload 5, 2, 0, 0, 0, 0) := by decide +kernel
theorem k_257_554 : COD 257 554 = some (.ifCond .ne 15, 3, 569, 0, 0, 0) := by decide +kernel
theorem k_257_557 : COD 257 557 = some (.aload_n 3, 1, 0, 0, 0, 0) := by decide +kernel
theorem k_257_558 : COD 257 558 = some (.iconst 0, 1, 0, 0, 0, 0) := by decide +kernel
theorem k_257_559 : COD 257 559 = some (.laload, 1, 0, 0, 0, 0) := by decide +kernel
theorem k_257_560 : COD 257 560 = some (.iload 6, 2, 0, 0, 0, 0) := by decide +kernel
theorem k_257_562 : COD 257 562 = some (.i2l, 1, 0, 0, 0, 0) := by decide +kernel
theorem k_257_563 : COD 257 563 = some (.lcmp, 1, 0, 0, 0, 0) := by decide +kernel
theorem k_257_564 : COD 257 564 = some (.ifCond .eq 5, 3, 569, 0, 0, 0) := by decide +kernel
theorem k_257_567 : COD 257 567 = some (.iconst 0, 1, 0, 0, 0, 0) := by decide +kernel
theorem k_257_568 : COD 257 568 = some (.ireturn, 1, 0, 0, 0, 1) := by decide +kernel
theorem k_257_569 : COD 257 569 = some (.goto 1283, 3, 1852, 0, 0, 0) := by decide +kernel
theorem k_257_572 : COD 257 572 = some (.aload_n 1, 1, 0, 0, 0, 0) := by decide +kernel
theorem k_257_573 : COD 257 573 = some (.aload_n 0, 1, 0, 0, 0, 0) := by decide +kernel
theorem k_257_574 : COD 257 574 = some (.iload 4, 2, 0, 0, 0, 0) := by decide +kernel
theorem k_257_576 : COD 257 576 = some (.iconst 1, 1, 0, 0, 0, 0) := by decide +kernel
theorem k_257_577 : COD 257 577 = some (.iadd, 1, 0, 0, 0, 0) := by decide +kernel
theorem k_257_578 : COD 257 578 = some (.iaload, 1, 0, 0, 0, 0) := by decide +kernel
theorem k_257_579 : COD 257 579 = some (.aload_n 3, 1, 0, 0, 0, 0) := by decide +kernel
theorem k_257_580 : COD 257 580 = some (.invokestatic 148, 3, 238, 3, 812, 0) := by decide +kernel
theorem k_257_583 : COD 257 583 = some (.istore 5, 2, 0, 0, 0, 0) := by decide +kernel
theorem k_257_585 : COD 257 585 = some (.aload_n 2, 1, 0, 0, 0, 0) := by decide +kernel
theorem k_257_586 : COD 257 586 = some (.aload_n 0, 1, 0, 0, 0, 0) := by decide +kernel
theorem k_257_587 : COD 257 587 = some (.iload 4, 2, 0, 0, 0, 0) := by decide +kernel
theorem k_257_589 : COD 257 589 = some (.iconst 1, 1, 0, 0, 0, 0) := by decide +kernel
theorem k_257_590 : COD 257 590 = some (.iadd, 1, 0, 0, 0, 0) := by decide +kernel
theorem k_257_591 : COD 257 591 = some (.iaload, 1, 0, 0, 0, 0) := by decide +kernel
theorem k_257_592 : COD 257 592 = some (.invokevirtual 150, 3, 197, 1, 1394, 10) := by decide +kernel
theorem k_257_595 : COD 257 595 = some (.lstore 6, 2, 0, 0, 0, 0) := by decide +kernel
theorem k_257_597 : COD 257 597 = some (.aload_n 2, 1, 0, 0, 0, 0) := by decide +kernel
theorem k_257_598 : COD 257 598 = some (.invokevirtual 102, 3, 128, 0, 1205, 10) := by decide +kernel
theorem k_257_601 : COD 257 601 = some (.iload 5, 2, 0, 0, 0, 0) := by decide +kernel
theorem k_257_603 : COD 257 603 = some (.if_icmp .eq 5, 3, 608, 0, 0, 0) := by decide +kernel
theorem k_257_606 : COD 257 606 = some (.iconst 0, 1, 0, 0, 0, 0) := by decide +kernel
theorem k_257_607 : COD 257 607 = some (.ireturn, 1, 0, 0, 0, 1) := by decide +kernel
theorem k_257_608 : COD 257 608 = some (.iload 5, 2, 0, 0, 0, 0) := by decide +kernel
theorem k_257_610 : COD 257 610 = some (.ifCond .ne 14, 3, 624, 0, 0, 0) := by decide +kernel
theorem k_257_613 : COD 257 613 = some (.aload_n 3, 1, 0, 0, 0, 0) := by decide +kernel
theorem k_257_614 : COD 257 614 = some (.iconst 0, 1, 0, 0, 0, 0) := by decide +kernel
theorem k_257_615 : COD 257 615 = some (.laload, 1, 0, 0, 0, 0) := by decide +kernel
theorem k_257_616 : COD 257 616 = some (.lload 6, 2, 0, 0, 0, 0) := by decide +kernel
theorem k_257_618 : COD 257 618 = some (.lcmp, 1, 0, 0, 0, 0) := by decide +kernel
theorem k_257_619 : COD 257 619 = some (.ifCond .eq 5, 3, 624, 0, 0, 0) := by decide +kernel
theorem k_257_622 : COD 257 622 = some (.iconst 0, 1, 0, 0, 0, 0) := by decide +kernel
theorem k_257_623 : COD 257 623 = some (.ireturn, 1, 0, 0, 0, 1) := by decide +kernel
theorem k_257_624 : COD 257 624 = some (.goto 1228, 3, 1852, 0, 0, 0) := by decide +kernel
theorem k_257_627 : COD 257 627 = some (.aload_n 1, 1, 0, 0, 0, 0) := by decide +kernel
theorem k_257_628 : COD 257 628 = some (.aload_n 0, 1, 0, 0, 0, 0) := by decide +kernel
theorem k_257_629 : COD 257 629 = some (.iload 4, 2, 0, 0, 0, 0) := by decide +kernel
theorem k_257_631 : COD 257 631 = some (.iconst 1, 1, 0, 0, 0, 0) := by decide +kernel
theorem k_257_632 : COD 257 632 = some (.iadd, 1, 0, 0, 0, 0) := by decide +kernel
theorem k_257_633 : COD 257 633 = some (.iaload, 1, 0, 0, 0, 0) := by decide +kernel
theorem k_257_634 : COD 257 634 = some (.aload_n 3, 1, 0, 0, 0, 0) := by decide +kernel
theorem k_257_635 : COD 257 635 = some (.invokestatic 151, 3, 239, 3, 819, 0) := by decide +kernel
theorem k_257_638 : COD 257 638 = some (.istore 5, 2, 0, 0, 0, 0) := by decide +kernel
theorem k_257_640 : COD 257 640 = some (.aload_n 2, 1, 0, 0, 0, 0) := by decide +kernel
theorem k_257_641 : COD 257 641 = some (.aload_n 0, 1, 0, 0, 0, 0) := by decide +kernel
theorem k_257_642 : COD 257 642 = some (.iload 4, 2, 0, 0, 0, 0) := by decide +kernel
theorem k_257_644 : COD 257 644 = some (.iconst 1, 1, 0, 0, 0, 0) := by decide +kernel
theorem k_257_645 : COD 257 645 = some (.iadd, 1, 0, 0, 0, 0) := by decide +kernel
theorem k_257_646 : COD 257 646 = some (.iaload, 1, 0, 0, 0, 0) := by decide +kernel
theorem k_257_647 : COD 257 647 = some (.invokevirtual 153, 3, 198, 1, 1398, 10) := by decide +kernel
theorem k_257_650 : COD 257 650 = some (.istore 6, 2, 0, 0, 0, 0) := by decide +kernel
theorem k_257_652 : COD 257 652 = some (.aload_n 2, 1, 0, 0, 0, 0) := by decide +kernel
theorem k_257_653 : COD 257 653 = some (.invokevirtual 102, 3, 128, 0, 1205, 10) := by decide +kernel
theorem k_257_656 : COD 257 656 = some (.iload 5, 2, 0, 0, 0, 0) := by decide +kernel
theorem k_257_658 : COD 257 658 = some (.if_icmp .eq 5, 3, 663, 0, 0, 0) := by decide +kernel
theorem k_257_661 : COD 257 661 = some (.iconst 0, 1, 0, 0, 0, 0) := by decide +kernel
theorem k_257_662 : COD 257 662 = some (.ireturn, 1, 0, 0, 0, 1) := by decide +kernel
theorem k_257_663 : COD 257 663 = some (.iload 5, 2, 0, 0, 0, 0) := by decide +kernel
theorem k_257_665 : COD 257 665 = some (.ifCond .ne 15, 3, 680, 0, 0, 0) := by decide +kernel
theorem k_257_668 : COD 257 668 = some (.aload_n 3, 1, 0, 0, 0, 0) := by decide +kernel
theorem k_257_669 : COD 257 669 = some (.iconst 0, 1, 0, 0, 0, 0) := by decide +kernel
theorem k_257_670 : COD 257 670 = some (.laload, 1, 0, 0, 0, 0) := by decide +kernel
theorem k_257_671 : COD 257 671 = some (.iload 6, 2, 0, 0, 0, 0) := by decide +kernel
theorem k_257_673 : COD 257 673 = some (.i2l, 1, 0, 0, 0, 0) := by decide +kernel
theorem k_257_674 : COD 257 674 = some (.lcmp, 1, 0, 0, 0, 0) := by decide +kernel
theorem k_257_675 : COD 257 675 = some (.ifCond .eq 5, 3, 680, 0, 0, 0) := by decide +kernel
theorem k_257_678 : COD 257 678 = some (.iconst 0, 1, 0, 0, 0, 0) := by decide +kernel
theorem k_257_679 : COD 257 679 = some (.ireturn, 1, 0, 0, 0, 1) := by decide +kernel
theorem k_257_680 : COD 257 680 = some (.goto 1172, 3, 1852, 0, 0, 0) := by decide +kernel
theorem k_257_683 : COD 257 683 = some (.aload_n 1, 1, 0, 0, 0, 0) := by decide +kernel
theorem k_257_684 : COD 257 684 = some (.aload_n 0, 1, 0, 0, 0, 0) := by decide +kernel
theorem k_257_685 : COD 257 685 = some (.iload 4, 2, 0, 0, 0, 0) := by decide +kernel
theorem k_257_687 : COD 257 687 = some (.iconst 1, 1, 0, 0, 0, 0) := by decide +kernel
theorem k_257_688 : COD 257 688 = some (.iadd, 1, 0, 0, 0, 0) := by decide +kernel
theorem k_257_689 : COD 257 689 = some (.iaload, 1, 0, 0, 0, 0) := by decide +kernel
theorem k_257_690 : COD 257 690 = some (.aload_n 3, 1, 0, 0, 0, 0) := by decide +kernel
theorem k_257_691 : COD 257 691 = some (.invokestatic 154, 3, 240, 3, 826, 0) := by decide +kernel
theorem k_257_694 : COD 257 694 = some (.istore 5, 2, 0, 0, 0, 0) := by decide +kernel
theorem k_257_696 : COD 257 696 = some (.aload_n 2, 1, 0, 0, 0, 0) := by decide +kernel
theorem k_257_697 : COD 257 697 = some (.aload_n 0, 1, 0, 0, 0, 0) := by decide +kernel
theorem k_257_698 : COD 257 698 = some (.iload 4, 2, 0, 0, 0, 0) := by decide +kernel
theorem k_257_700 : COD 257 700 = some (.iconst 1, 1, 0, 0, 0, 0) := by decide +kernel
theorem k_257_701 : COD 257 701 = some (.iadd, 1, 0, 0, 0, 0) := by decide +kernel
theorem k_257_702 : COD 257 702 = some (.iaload, 1, 0, 0, 0, 0) := by decide +kernel
theorem k_257_703 : COD 257 703 = some (.invokevirtual 156, 3, 199, 1, 1402, 10) := by decide +kernel
theorem k_257_706 : COD 257 706 = some (.istore 6, 2, 0, 0, 0, 0) := by decide +kernel
theorem k_257_708 : COD 257 708 = some (.aload_n 2, 1, 0, 0, 0, 0) := by decide +kernel
theorem k_257_709 : COD 257 709 = some (.invokevirtual 102, 3, 128, 0, 1205, 10) := by decide +kernel
theorem k_257_712 : COD 257 712 = some (.iload 5, 2, 0, 0, 0, 0) := by decide +kernel
theorem k_257_714 : COD 257 714 = some (.if_icmp .eq 5, 3, 719, 0, 0, 0) := by decide +kernel
theorem k_257_717 : COD 257 717 = some (.iconst 0, 1, 0, 0, 0, 0) := by decide +kernel
theorem k_257_718 : COD 257 718 = some (.ireturn, 1, 0, 0, 0, 1) := by decide +kernel
theorem k_257_719 : COD 257 719 = some (.iload 5, 2, 0, 0, 0, 0) := by decide +kernel
theorem k_257_721 : COD 257 721 = some (.ifCond .ne 15, 3, 736, 0, 0, 0) := by decide +kernel
theorem k_257_724 : COD 257 724 = some (.aload_n 3, 1, 0, 0, 0, 0) := by decide +kernel
theorem k_257_725 : COD 257 725 = some (.iconst 0, 1, 0, 0, 0, 0) := by decide +kernel
theorem k_257_726 : COD 257 726 = some (.laload, 1, 0, 0, 0, 0) := by decide +kernel
theorem k_257_727 : COD 257 727 = some (.iload 6, 2, 0, 0, 0, 0) := by decide +kernel
theorem k_257_729 : COD 257 729 = some (.i2l, 1, 0, 0, 0, 0) := by decide +kernel
theorem k_257_730 : COD 257 730 = some (.lcmp, 1, 0, 0, 0, 0) := by decide +kernel
theorem k_257_731 : COD 257 731 = some (.ifCond .eq 5, 3, 736, 0, 0, 0) := by decide +kernel
theorem k_257_734 : COD 257 734 = some (.iconst 0, 1, 0, 0, 0, 0) := by decide +kernel
theorem k_257_735 : COD 257 735 = some (.ireturn, 1, 0, 0, 0, 1) := by decide +kernel
theorem k_257_736 : COD 257 736 = some (.goto 1116, 3, 1852, 0, 0, 0) := by decide +kernel
theorem k_257_739 : COD 257 739 = some (.aload_n 1, 1, 0, 0, 0, 0) := by decide +kernel
theorem k_257_740 : COD 257 740 = some (.aload_n 0, 1, 0, 0, 0, 0) := by decide +kernel
theorem k_257_741 : COD 257 741 = some (.iload 4, 2, 0, 0, 0, 0) := by decide +kernel
theorem k_257_743 : COD 257 743 = some (.iconst 1, 1, 0, 0, 0, 0) := by decide +kernel
theorem k_257_744 : COD 257 744 = some (.iadd, 1, 0, 0, 0, 0) := by decide +kernel
theorem k_257_745 : COD 257 745 = some (.iaload, 1, 0, 0, 0, 0) := by decide +kernel
theorem k_257_746 : COD 257 746 = some (.aload_n 3, 1, 0, 0, 0, 0) := by decide +kernel
theorem k_257_747 : COD 257 747 = some (.invokestatic 157, 3, 241, 3, 833, 0) := by decide +kernel
theorem k_257_750 : COD 257 750 = some (.istore 5, 2, 0, 0, 0, 0) := by decide +kernel
theorem k_257_752 : COD 257 752 = some (.aload_n 2, 1, 0, 0, 0, 0) := by decide +kernel
theorem k_257_753 : COD 257 753 = some (.aload_n 0, 1, 0, 0, 0, 0) := by decide +kernel
theorem k_257_754 : COD 257 754 = some (.iload 4, 2, 0, 0, 0, 0) := by decide +kernel
theorem k_257_756 : COD 257 756 = some (.iconst 1, 1, 0, 0, 0, 0) := by decide +kernel
theorem k_257_757 : COD 257 757 = some (.iadd, 1, 0, 0, 0, 0) := by decide +kernel
theorem k_257_758 : COD 257 758 = some (.iaload, 1, 0, 0, 0, 0) := by decide +kernel
theorem k_257_759 : COD 257 759 = some (.invokevirtual 159, 3, 200, 1, 1406, 10) := by decide +kernel
theorem k_257_762 : COD 257 762 = some (.istore 6, 2, 0, 0, 0, 0) := by decide +kernel
theorem k_257_764 : COD 257 764 = some (.aload_n 2, 1, 0, 0, 0, 0) := by decide +kernel
theorem k_257_765 : COD 257 765 = some (.invokevirtual 102, 3, 128, 0, 1205, 10) := by decide +kernel
theorem k_257_768 : COD 257 768 = some (.iload 5, 2, 0, 0, 0, 0) := by decide +kernel
theorem k_257_770 : COD 257 770 = some (.if_icmp .eq 5, 3, 775, 0, 0, 0) := by decide +kernel
theorem k_257_773 : COD 257 773 = some (.iconst 0, 1, 0, 0, 0, 0) := by decide +kernel
theorem k_257_774 : COD 257 774 = some (.ireturn, 1, 0, 0, 0, 1) := by decide +kernel
theorem k_257_775 : COD 257 775 = some (.iload 5, 2, 0, 0, 0, 0) := by decide +kernel
theorem k_257_777 : COD 257 777 = some (.ifCond .ne 15, 3, 792, 0, 0, 0) := by decide +kernel
theorem k_257_780 : COD 257 780 = some (.aload_n 3, 1, 0, 0, 0, 0) := by decide +kernel
theorem k_257_781 : COD 257 781 = some (.iconst 0, 1, 0, 0, 0, 0) := by decide +kernel
theorem k_257_782 : COD 257 782 = some (.laload, 1, 0, 0, 0, 0) := by decide +kernel
theorem k_257_783 : COD 257 783 = some (.iload 6, 2, 0, 0, 0, 0) := by decide +kernel
theorem k_257_785 : COD 257 785 = some (.i2l, 1, 0, 0, 0, 0) := by decide +kernel
theorem k_257_786 : COD 257 786 = some (.lcmp, 1, 0, 0, 0, 0) := by decide +kernel
theorem k_257_787 : COD 257 787 = some (.ifCond .eq 5, 3, 792, 0, 0, 0) := by decide +kernel
theorem k_257_790 : COD 257 790 = some (.iconst 0, 1, 0, 0, 0, 0) := by decide +kernel
theorem k_257_791 : COD 257 791 = some (.ireturn, 1, 0, 0, 0, 1) := by decide +kernel
theorem k_257_792 : COD 257 792 = some (.goto 1060, 3, 1852, 0, 0, 0) := by decide +kernel
theorem k_257_795 : COD 257 795 = some (.aload_n 1, 1, 0, 0, 0, 0) := by decide +kernel
theorem k_257_796 : COD 257 796 = some (.aload_n 0, 1, 0, 0, 0, 0) := by decide +kernel
theorem k_257_797 : COD 257 797 = some (.iload 4, 2, 0, 0, 0, 0) := by decide +kernel
theorem k_257_799 : COD 257 799 = some (.iconst 1, 1, 0, 0, 0, 0) := by decide +kernel
theorem k_257_800 : COD 257 800 = some (.iadd, 1, 0, 0, 0, 0) := by decide +kernel
theorem k_257_801 : COD 257 801 = some (.iaload, 1, 0, 0, 0, 0) := by decide +kernel
theorem k_257_802 : COD 257 802 = some (.aload_n 3, 1, 0, 0, 0, 0) := by decide +kernel
theorem k_257_803 : COD 257 803 = some (.invokestatic 160, 3, 242, 3, 840, 0) := by decide +kernel
theorem k_257_806 : COD 257 806 = some (.istore 5, 2, 0, 0, 0, 0) := by decide +kernel
theorem k_257_808 : COD 257 808 = some (.aload_n 2, 1, 0, 0, 0, 0) := by decide +kernel
theorem k_257_809 : COD 257 809 = some (.aload_n 0, 1, 0, 0, 0, 0) := by decide +kernel
theorem k_257_810 : COD 257 810 = some (.iload 4, 2, 0, 0, 0, 0) := by decide +kernel
theorem k_257_812 : COD 257 812 = some (.iconst 1, 1, 0, 0, 0, 0) := by decide +kernel
theorem k_257_813 : COD 257 813 = some (.iadd, 1, 0, 0, 0, 0) := by decide +kernel
theorem k_257_814 : COD 257 814 = some (.iaload, 1, 0, 0, 0, 0) := by decide +kernel
theorem k_257_815 : COD 257 815 = some (.invokevirtual 162, 3, 201, 1, 1410, 10) := by decide +kernel
theorem k_257_818 : COD 257 818 = some (.istore 6, 2, 0, 0, 0, 0) := by decide +kernel
theorem k_257_820 : COD 257 820 = some (.aload_n 2, 1, 0, 0, 0, 0) := by decide +kernel
theorem k_257_821 : COD 257 821 = some (.invokevirtual 102, 3, 128, 0, 1205, 10) := by decide +kernel
theorem k_257_824 : COD 257 824 = some (.iload 5, 2, 0, 0, 0, 0) := by decide +kernel
theorem k_257_826 : COD 257 826 = some (.if_icmp .eq 5, 3, 831, 0, 0, 0) := by decide +kernel
theorem k_257_829 : COD 257 829 = some (.iconst 0, 1, 0, 0, 0, 0) := by decide +kernel
theorem k_257_830 : COD 257 830 = some (.ireturn, 1, 0, 0, 0, 1) := by decide +kernel
theorem k_257_831 : COD 257 831 = some (.iload 5, 2, 0, 0, 0, 0) := by decide +kernel
theorem k_257_833 : COD 257 833 = some (.ifCond .ne 22, 3, 855, 0, 0, 0) := by decide +kernel
theorem k_257_836 : COD 257 836 = some (.aload_n 3, 1, 0, 0, 0, 0) := by decide +kernel
theorem k_257_837 : COD 257 837 = some (.iconst 0, 1, 0, 0, 0, 0) := by decide +kernel
theorem k_257_838 : COD 257 838 = some (.laload, 1, 0, 0, 0, 0) := by decide +kernel
theorem k_257_839 : COD 257 839 = some (.iload 6, 2, 0, 0, 0, 0) := by decide +kernel
theorem k_257_841 : COD 257 841 = some (.ifCond .eq 7, 3, 848, 0, 0, 0) := by decide +kernel
theorem k_257_844 : COD 257 844 = some (.lconst 1, 1, 0, 0, 0, 0) := by decide +kernel
theorem k_257_845 : COD 257 845 = some (.goto 4, 3, 849, 0, 0, 0) := by decide +kernel
theorem k_257_848 : COD 257 848 = some (.lconst 0, 1, 0, 0, 0, 0) := by decide +kernel
theorem k_257_849 : COD 257 849 = some (.lcmp, 1, 0, 0, 0, 0) := by decide +kernel
theorem k_257_850 : COD 257 850 = some (.ifCond .eq 5, 3, 855, 0, 0, 0) := by decide +kernel
theorem k_257_853 : COD 257 853 = some (.iconst 0, 1, 0, 0, 0, 0) := by decide +kernel
theorem k_257_854 : COD 257 854 = some (.ireturn, 1, 0, 0, 0, 1) := by decide +kernel
theorem k_257_855 : COD 257 855 = some (.goto 997, 3, 1852, 0, 0, 0) := by decide +kernel
theorem k_257_858 : COD 257 858 = some (.aload_n 1, 1, 0, 0, 0, 0) := by decide +kernel
theorem k_257_859 : COD 257 859 = some (.aload_n 0, 1, 0, 0, 0, 0) := by decide +kernel
theorem k_257_860 : COD 257 860 = some (.iload 4, 2, 0, 0, 0, 0) := by decide +kernel
theorem k_257_862 : COD 257 862 = some (.iconst 1, 1, 0, 0, 0, 0) := by decide +kernel
theorem k_257_863 : COD 257 863 = some (.iadd, 1, 0, 0, 0, 0) := by decide +kernel
theorem k_257_864 : COD 257 864 = some (.iaload, 1, 0, 0, 0, 0) := by decide +kernel
theorem k_257_865 : COD 257 865 = some (.aload_n 3, 1, 0, 0, 0, 0) := by decide +kernel
theorem k_257_866 : COD 257 866 = some (.invokestatic 163, 3, 243, 3, 847, 0) := by decide +kernel
theorem k_257_869 : COD 257 869 = some (.istore 5, 2, 0, 0, 0, 0) := by decide +kernel
theorem k_257_871 : COD 257 871 = some (.aload_n 2, 1, 0, 0, 0, 0) := by decide +kernel
theorem k_257_872 : COD 257 872 = some (.aload_n 0, 1, 0, 0, 0, 0) := by decide +kernel
theorem k_257_873 : COD 257 873 = some (.iload 4, 2, 0, 0, 0, 0) := by decide +kernel
theorem k_257_875 : COD 257 875 = some (.iconst 1, 1, 0, 0, 0, 0) := by decide +kernel
theorem k_257_876 : COD 257 876 = some (.iadd, 1, 0, 0, 0, 0) := by decide +kernel
theorem k_257_877 : COD 257 877 = some (.iaload, 1, 0, 0, 0, 0) := by decide +kernel
theorem k_257_878 : COD 257 878 = some (.invokevirtual 165, 3, 202, 1, 1418, 10) := by decide +kernel
theorem k_257_881 : COD 257 881 = some (.istore 6, 2, 0, 0, 0, 0) := by decide +kernel
theorem k_257_883 : COD 257 883 = some (.aload_n 2, 1, 0, 0, 0, 0) := by decide +kernel
theorem k_257_884 : COD 257 884 = some (.invokevirtual 102, 3, 128, 0, 1205, 10) := by decide +kernel
theorem k_257_887 : COD 257 887 = some (.iload 5, 2, 0, 0, 0, 0) := by decide +kernel
theorem k_257_889 : COD 257 889 = some (.if_icmp .eq 5, 3, 894, 0, 0, 0) := by decide +kernel
theorem k_257_892 : COD 257 892 = some (.iconst 0, 1, 0, 0, 0, 0) := by decide +kernel
theorem k_257_893 : COD 257 893 = some (.ireturn, 1, 0, 0, 0, 1) := by decide +kernel
theorem k_257_894 : COD 257 894 = some (.iload 5, 2, 0, 0, 0, 0) := by decide +kernel
theorem k_257_896 : COD 257 896 = some (.ifCond .ne 15, 3, 911, 0, 0, 0) := by decide +kernel
theorem k_257_899 : COD 257 899 = some (.aload_n 3, 1, 0, 0, 0, 0) := by decide +kernel
theorem k_257_900 : COD 257 900 = some (.iconst 0, 1, 0, 0, 0, 0) := by decide +kernel
theorem k_257_901 : COD 257 901 = some (.laload, 1, 0, 0, 0, 0) := by decide +kernel
theorem k_257_902 : COD 257 902 = some (.iload 6, 2, 0, 0, 0, 0) := by decide +kernel
theorem k_257_904 : COD 257 904 = some (.i2l, 1, 0, 0, 0, 0) := by decide +kernel
theorem k_257_905 : COD 257 905 = some (.lcmp, 1, 0, 0, 0, 0) := by decide +kernel
theorem k_257_906 : COD 257 906 = some (.ifCond .eq 5, 3, 911, 0, 0, 0) := by decide +kernel
theorem k_257_909 : COD 257 909 = some (.iconst 0, 1, 0, 0, 0, 0) := by decide +kernel
theorem k_257_910 : COD 257 910 = some (.ireturn, 1, 0, 0, 0, 1) := by decide +kernel
theorem k_257_911 : COD 257 911 = some (.goto 941, 3, 1852, 0, 0, 0) := by decide +kernel
theorem k_257_914 : COD 257 914 = some (.aload_n 1, 1, 0, 0, 0, 0) := by decide +kernel
theorem k_257_915 : COD 257 915 = some (.aload_n 0, 1, 0, 0, 0, 0) := by decide +kernel
theorem k_257_916 : COD 257 916 = some (.iload 4, 2, 0, 0, 0, 0) := by decide +kernel
theorem k_257_918 : COD 257 918 = some (.iconst 1, 1, 0, 0, 0, 0) := by decide +kernel
theorem k_257_919 : COD 257 919 = some (.iadd, 1, 0, 0, 0, 0) := by decide +kernel
theorem k_257_920 : COD 257 920 = some (.iaload, 1, 0, 0, 0, 0) := by decide +kernel
theorem k_257_921 : COD 257 921 = some (.aload_n 3, 1, 0, 0, 0, 0) := by decide +kernel
theorem k_257_922 : COD 257 922 = some (.invokestatic 166, 3, 244, 3, 855, 0) := by decide +kernel
theorem k_257_925 : COD 257 925 = some (.istore 5, 2, 0, 0, 0, 0) := by decide +kernel
theorem k_257_927 : COD 257 927 = some (.aload_n 2, 1, 0, 0, 0, 0) := by decide +kernel
theorem k_257_928 : COD 257 928 = some (.aload_n 0, 1, 0, 0, 0, 0) := by decide +kernel
theorem k_257_929 : COD 257 929 = some (.iload 4, 2, 0, 0, 0, 0) := by decide +kernel
theorem k_257_931 : COD 257 931 = some (.iconst 1, 1, 0, 0, 0, 0) := by decide +kernel
theorem k_257_932 : COD 257 932 = some (.iadd, 1, 0, 0, 0, 0) := by decide +kernel
theorem k_257_933 : COD 257 933 = some (.iaload, 1, 0, 0, 0, 0) := by decide +kernel
theorem k_257_934 : COD 257 934 = some (.invokevirtual 168, 3, 203, 1, 1422, 10) := by decide +kernel
theorem k_257_937 : COD 257 937 = some (.istore 6, 2, 0, 0, 0, 0) := by decide +kernel
theorem k_257_939 : COD 257 939 = some (.aload_n 2, 1, 0, 0, 0, 0) := by decide +kernel
theorem k_257_940 : COD 257 940 = some (.invokevirtual 102, 3, 128, 0, 1205, 10) := by decide +kernel
theorem k_257_943 : COD 257 943 = some (.iload 5, 2, 0, 0, 0, 0) := by decide +kernel
theorem k_257_945 : COD 257 945 = some (.if_icmp .eq 5, 3, 950, 0, 0, 0) := by decide +kernel
theorem k_257_948 : COD 257 948 = some (.iconst 0, 1, 0, 0, 0, 0) := by decide +kernel
theorem k_257_949 : COD 257 949 = some (.ireturn, 1, 0, 0, 0, 1) := by decide +kernel
theorem k_257_950 : COD 257 950 = some (.iload 5, 2, 0, 0, 0, 0) := by decide +kernel
theorem k_257_952 : COD 257 952 = some (.ifCond .ne 15, 3, 967, 0, 0, 0) := by decide +kernel
theorem k_257_955 : COD 257 955 = some (.aload_n 3, 1, 0, 0, 0, 0) := by decide +kernel
theorem k_257_956 : COD 257 956 = some (.iconst 0, 1, 0, 0, 0, 0) := by decide +kernel
theorem k_257_957 : COD 257 957 = some (.laload, 1, 0, 0, 0, 0) := by decide +kernel
theorem k_257_958 : COD 257 958 = some (.iload 6, 2, 0, 0, 0, 0) := by decide +kernel
theorem k_257_960 : COD 257 960 = some (.i2l, 1, 0, 0, 0, 0) := by decide +kernel
theorem k_257_961 : COD 257 961 = some (.lcmp, 1, 0, 0, 0, 0) := by decide +kernel
theorem k_257_962 : COD 257 962 = some (.ifCond .eq 5, 3, 967, 0, 0, 0) := by decide +kernel
theorem k_257_965 : COD 257 965 = some (.iconst 0, 1, 0, 0, 0, 0) := by decide +kernel
theorem k_257_966 : COD 257 966 = some (.ireturn, 1, 0, 0, 0, 1) := by decide +kernel
theorem k_257_967 : COD 257 967 = some (.goto 885, 3, 1852, 0, 0, 0) := by decide +kernel
theorem k_257_970 : COD 257 970 = some (.aload_n 1, 1, 0, 0, 0, 0) := by decide +kernel
theorem k_257_971 : COD 257 971 = some (.aload_n 0, 1, 0, 0, 0, 0) := by decide +kernel
theorem k_257_972 : COD 257 972 = some (.iload 4, 2, 0, 0, 0, 0) := by decide +kernel
theorem k_257_974 : COD 257 974 = some (.iconst 1, 1, 0, 0, 0, 0) := by decide +kernel
theorem k_257_975 : COD 257 975 = some (.iadd, 1, 0, 0, 0, 0) := by decide +kernel
theorem k_257_976 : COD 257 976 = some (.iaload, 1, 0, 0, 0, 0) := by decide +kernel
theorem k_257_977 : COD 257 977 = some (.aload_n 3, 1, 0, 0, 0, 0) := by decide +kernel
theorem k_257_978 : COD 257 978 = some (.invokestatic 169, 3, 245, 3, 867, 0) := by decide +kernel
theorem k_257_981 : COD 257 981 = some (.istore 5, 2, 0, 0, 0, 0) := by decide +kernel
theorem k_257_983 : COD 257 983 = some (.aload_n 2, 1, 0, 0, 0, 0) := by decide +kernel
theorem k_257_984 : COD 257 984 = some (.aload_n 0, 1, 0, 0, 0, 0) := by decide +kernel
theorem k_257_985 : COD 257 985 = some (.iload 4, 2, 0, 0, 0, 0) := by decide +kernel
theorem k_257_987 : COD 257 987 = some (.iconst 1, 1, 0, 0, 0, 0) := by decide +kernel
theorem k_257_988 : COD 257 988 = some (.iadd, 1, 0, 0, 0, 0) := by decide +kernel
theorem k_257_989 : COD 257 989 = some (.iaload, 1, 0, 0, 0, 0) := by decide +kernel
theorem k_257_990 : COD 257 990 = some (.invokevirtual 171, 3, 205, 1, 1438, 10) := by decide +kernel
theorem k_257_993 : COD 257 993 = some (.istore 6, 2, 0, 0, 0, 0) := by decide +kernel
theorem k_257_995 : COD 257 995 = some (.aload_n 2, 1, 0, 0, 0, 0) := by decide +kernel
theorem k_257_996 : COD 257 996 = some (.invokevirtual 102, 3, 128, 0, 1205, 10) := by decide +kernel
theorem k_257_999 : COD 257 999 = some (.iload 5, 2, 0, 0, 0, 0) := by decide +kernel
theorem k_257_1001 : COD 257 1001 = some (.if_icmp .eq 5, 3, 1006, 0, 0, 0) := by decide +kernel
theorem k_257_1004 : COD 257 1004 = some (.iconst 0, 1, 0, 0, 0, 0) := by decide +kernel
theorem k_257_1005 : COD 257 1005 = some (.ireturn, 1, 0, 0, 0, 1) := by decide +kernel
theorem k_257_1006 : COD 257 1006 = some (.iload 5, 2, 0, 0, 0, 0) := by decide +kernel
theorem k_257_1008 : COD 257 1008 = some (.ifCond .ne 15, 3, 1023, 0, 0, 0) := by decide +kernel
theorem k_257_1011 : COD 257 1011 = some (.aload_n 3, 1, 0, 0, 0, 0) := by decide +kernel
theorem k_257_1012 : COD 257 1012 = some (.iconst 0, 1, 0, 0, 0, 0) := by decide +kernel
theorem k_257_1013 : COD 257 1013 = some (.laload, 1, 0, 0, 0, 0) := by decide +kernel
theorem k_257_1014 : COD 257 1014 = some (.iload 6, 2, 0, 0, 0, 0) := by decide +kernel
theorem k_257_1016 : COD 257 1016 = some (.i2l, 1, 0, 0, 0, 0) := by decide +kernel
theorem k_257_1017 : COD 257 1017 = some (.lcmp, 1, 0, 0, 0, 0) := by decide +kernel
theorem k_257_1018 : COD 257 1018 = some (.ifCond .eq 5, 3, 1023, 0, 0, 0) := by decide +kernel
theorem k_257_1021 : COD 257 1021 = some (.iconst 0, 1, 0, 0, 0, 0) := by decide +kernel
theorem k_257_1022 : COD 257 1022 = some (.ireturn, 1, 0, 0, 0, 1) := by decide +kernel
theorem k_257_1023 : COD 257 1023 = some (.goto 829, 3, 1852, 0, 0, 0) := by decide +kernel
theorem k_257_1026 : COD 257 1026 = some (.aload_n 1, 1, 0, 0, 0, 0) := by decide +kernel
theorem k_257_1027 : COD 257 1027 = some (.aload_n 0, 1, 0, 0, 0, 0) := by decide +kernel
theorem k_257_1028 : COD 257 1028 = some (.iload 4, 2, 0, 0, 0, 0) := by decide +kernel
theorem k_257_1030 : COD 257 1030 = some (.iconst 1, 1, 0, 0, 0, 0) := by decide +kernel
theorem k_257_1031 : COD 257 1031 = some (.iadd, 1, 0, 0, 0, 0) := by decide +kernel
theorem k_257_1032 : COD 257 1032 = some (.iaload, 1, 0, 0, 0, 0) := by decide +kernel
theorem k_257_1033 : COD 257 1033 = some (.aload_n 0, 1, 0, 0, 0, 0) := by decide +kernel
theorem k_257_1034 : COD 257 1034 = some (.iload 4, 2, 0, 0, 0, 0) := by decide +kernel
theorem k_257_1036 : COD 257 1036 = some (.iconst 2, 1, 0, 0, 0, 0) := by decide +kernel
theorem k_257_1037 : COD 257 1037 = some (.iadd, 1, 0, 0, 0, 0) := by decide +kernel
theorem k_257_1038 : COD 257 1038 = some (.iaload, 1, 0, 0, 0, 0) := by decide +kernel
theorem k_257_1039 : COD 257 1039 = some (.aload_n 3, 1, 0, 0, 0, 0) := by decide +kernel
theorem k_257_1040 : COD 257 1040 = some (.invokestatic 172, 3, 246, 4, 882, 0) := by decide +kernel
theorem k_257_1043 : COD 257 1043 = some (.istore 5, 2, 0, 0, 0, 0) := by decide +kernel
theorem k_257_1045 : COD 257 1045 = some (.aload_n 2, 1, 0, 0, 0, 0) := by decide +kernel
theorem k_257_1046 : COD 257 1046 = some (.aload_n 0, 1, 0, 0, 0, 0) := by decide +kernel
theorem k_257_1047 : COD 257 1047 = some (.iload 4, 2, 0, 0, 0, 0) := by decide +kernel
theorem k_257_1049 : COD 257 1049 = some (.iconst 1, 1, 0, 0, 0, 0) := by decide +kernel
theorem k_257_1050 : COD 257 1050 = some (.iadd, 1, 0, 0, 0, 0) := by decide +kernel
theorem k_257_1051 : COD 257 1051 = some (.iaload, 1, 0, 0, 0, 0) := by decide +kernel
theorem k_257_1052 : COD 257 1052 = some (.aload_n 0, 1, 0, 0, 0, 0) := by decide +kernel
theorem k_257_1053 : COD 257 1053 = some (.iload 4, 2, 0, 0, 0, 0) := by decide +kernel
theorem k_257_1055 : COD 257 1055 = some (.iconst 2, 1, 0, 0, 0, 0) := by decide +kernel
theorem k_257_1056 : COD 257 1056 = some (.iadd, 1, 0, 0, 0, 0) := by decide +kernel
theorem k_257_1057 : COD 257 1057 = some (.iaload, 1, 0, 0, 0, 0) := by decide +kernel
theorem k_257_1058 : COD 257 1058 = some (.invokevirtual 175, 3, 207, 2, 1446, 10) := by decide +kernel
theorem k_257_1061 : COD 257 1061 = some (.istore 6, 2, 0, 0, 0, 0) := by decide +kernel
theorem k_257_1063 : COD 257 1063 = some (.aload_n 2, 1, 0, 0, 0, 0) := by decide +kernel
theorem k_257_1064 : COD 257 1064 = some (.invokevirtual 102, 3, 128, 0, 1205, 10) := by decide +kernel
theorem k_257_1067 : COD 257 1067 = some (.iload 5, 2, 0, 0, 0, 0) := by decide +kernel
theorem k_257_1069 : COD 257 1069 = some (.if_icmp .eq 5, 3, 1074, 0, 0, 0) := by decide +kernel
theorem k_257_1072 : COD 257 1072 = some (.iconst 0, 1, 0, 0, 0, 0) := by decide +kernel
theorem k_257_1073 : COD 257 1073 = some (.ireturn, 1, 0, 0, 0, 1) := by decide +kernel
theorem k_257_1074 : COD 257 1074 = some (.iload 5, 2, 0, 0, 0, 0) := by decide +kernel
theorem k_257_1076 : COD 257 1076 = some (.ifCond .ne 15, 3, 1091, 0, 0, 0) := by decide +kernel
theorem k_257_1079 : COD 257 1079 = some (.aload_n 3, 1, 0, 0, 0, 0) := by decide +kernel
theorem k_257_1080 : COD 257 1080 = some (.iconst 0, 1, 0, 0, 0, 0) := by decide +kernel
theorem k_257_1081 : COD 257 1081 = some (.laload, 1, 0, 0, 0, 0) := by decide +kernel
theorem k_257_1082 : COD 257 1082 = some (.iload 6, 2, 0, 0, 0, 0) := by decide +kernel
theorem k_257_1084 : COD 257 1084 = some (.i2l, 1, 0, 0, 0, 0) := by decide +kernel
theorem k_257_1085 : COD 257 1085 = some (.lcmp, 1, 0, 0, 0, 0) := by decide +kernel
theorem k_257_1086 : COD 257 1086 = some (.ifCond .eq 5, 3, 1091, 0, 0, 0) := by decide +kernel
theorem k_257_1089 : COD 257 1089 = some (.iconst 0, 1, 0, 0, 0, 0) := by decide +kernel
theorem k_257_1090 : COD 257 1090 = some (.ireturn, 1, 0, 0, 0, 1) := by decide +kernel
theorem k_257_1091 : COD 257 1091 = some (.goto 761, 3, 1852, 0, 0, 0) := by decide +kernel
theorem k_257_1094 : COD 257 1094 = some (.aload_n 1, 1, 0, 0, 0, 0) := by decide +kernel
theorem k_257_1095 : COD 257 1095 = some (.aload_n 0, 1, 0, 0, 0, 0) := by decide +kernel
theorem k_257_1096 : COD 257 1096 = some (.iload 4, 2, 0, 0, 0, 0) := by decide +kernel
theorem k_257_1098 : COD 257 1098 = some (.iconst 1, 1, 0, 0, 0, 0) := by decide +kernel
theorem k_257_1099 : COD 257 1099 = some (.iadd, 1, 0, 0, 0, 0) := by decide +kernel
theorem k_257_1100 : COD 257 1100 = some (.iaload, 1, 0, 0, 0, 0) := by decide +kernel
theorem k_257_1101 : COD 257 1101 = some (.aload_n 0, 1, 0, 0, 0, 0) := by decide +kernel
theorem k_257_1102 : COD 257 1102 = some (.iload 4, 2, 0, 0, 0, 0) := by decide +kernel
theorem k_257_1104 : COD 257 1104 = some (.iconst 2, 1, 0, 0, 0, 0) := by decide +kernel
theorem k_257_1105 : COD 257 1105 = some (.iadd, 1, 0, 0, 0, 0) := by decide +kernel
theorem k_257_1106 : COD 257 1106 = some (.iaload, 1, 0, 0, 0, 0) := by decide +kernel
theorem k_257_1107 : COD 257 1107 = some (.aload_n 3, 1, 0, 0, 0, 0) := by decide +kernel
theorem k_257_1108 : COD 257 1108 = some (.invokestatic 176, 3, 247, 4, 927, 0) := by decide +kernel
theorem k_257_1111 : COD 257 1111 = some (.istore 5, 2, 0, 0, 0, 0) := by decide +kernel
theorem k_257_1113 : COD 257 1113 = some (.aload_n 2, 1, 0, 0, 0, 0) := by decide +kernel
theorem k_257_1114 : COD 257 1114 = some (.aload_n 0, 1, 0, 0, 0, 0) := by decide +kernel
theorem k_257_1115 : COD 257 1115 = some (.iload 4, 2, 0, 0, 0, 0) := by decide +kernel
theorem k_257_1117 : COD 257 1117 = some (.iconst 1, 1, 0, 0, 0, 0) := by decide +kernel
theorem k_257_1118 : COD 257 1118 = some (.iadd, 1, 0, 0, 0, 0) := by decide +kernel
theorem k_257_1119 : COD 257 1119 = some (.iaload, 1, 0, 0, 0, 0) := by decide +kernel
theorem k_257_1120 : COD 257 1120 = some (.aload_n 0, 1, 0, 0, 0, 0) := by decide +kernel
theorem k_257_1121 : COD 257 1121 = some (.iload 4, 2, 0, 0, 0, 0) := by decide +kernel
theorem k_257_1123 : COD 257 1123 = some (.iconst 2, 1, 0, 0, 0, 0) := by decide +kernel
theorem k_257_1124 : COD 257 1124 = some (.iadd, 1, 0, 0, 0, 0) := by decide +kernel
theorem k_257_1125 : COD 257 1125 = some (.iaload, 1, 0, 0, 0, 0) := by decide +kernel
theorem k_257_1126 : COD 257 1126 = some (.invokevirtual 178, 3, 208, 2, 1496, 10) := by decide +kernel
theorem k_257_1129 : COD 257 1129 = some (.lstore 6, 2, 0, 0, 0, 0) := by decide +kernel
theorem k_257_1131 : COD 257 1131 = some (.aload_n 2, 1, 0, 0, 0, 0) := by decide +kernel
theorem k_257_1132 : COD 257 1132 = some (.invokevirtual 102, 3, 128, 0, 1205, 10) := by decide +kernel
theorem k_257_1135 : COD 257 1135 = some (.iload 5, 2, 0, 0, 0, 0) := by decide +kernel
theorem k_257_1137 : COD 257 1137 = some (.if_icmp .eq 5, 3, 1142, 0, 0, 0) := by decide +kernel
theorem k_257_1140 : COD 257 1140 = some (.iconst 0, 1, 0, 0, 0, 0) := by decide +kernel
theorem k_257_1141 : COD 257 1141 = some (.ireturn, 1, 0, 0, 0, 1) := by decide +kernel
theorem k_257_1142 : COD 257 1142 = some (.iload 5, 2, 0, 0, 0, 0) := by decide +kernel
theorem k_257_1144 : COD 257 1144 = some (.ifCond .ne 14, 3, 1158, 0, 0, 0) := by decide +kernel
theorem k_257_1147 : COD 257 1147 = some (.aload_n 3, 1, 0, 0, 0, 0) := by decide +kernel
theorem k_257_1148 : COD 257 1148 = some (.iconst 0, 1, 0, 0, 0, 0) := by decide +kernel
theorem k_257_1149 : COD 257 1149 = some (.laload, 1, 0, 0, 0, 0) := by decide +kernel
theorem k_257_1150 : COD 257 1150 = some (.lload 6, 2, 0, 0, 0, 0) := by decide +kernel
theorem k_257_1152 : COD 257 1152 = some (.lcmp, 1, 0, 0, 0, 0) := by decide +kernel
theorem k_257_1153 : COD 257 1153 = some (.ifCond .eq 5, 3, 1158, 0, 0, 0) := by decide +kernel
theorem k_257_1156 : COD 257 1156 = some (.iconst 0, 1, 0, 0, 0, 0) := by decide +kernel
theorem k_257_1157 : COD 257 1157 = some (.ireturn, 1, 0, 0, 0, 1) := by decide +kernel
theorem k_257_1158 : COD 257 1158 = some (.goto 694, 3, 1852, 0, 0, 0) := by decide +kernel
theorem k_257_1161 : COD 257 1161 = some (.aload_n 1, 1, 0, 0, 0, 0) := by decide +kernel
theorem k_257_1162 : COD 257 1162 = some (.aload_n 0, 1, 0, 0, 0, 0) := by decide +kernel
theorem k_257_1163 : COD 257 1163 = some (.iload 4, 2, 0, 0, 0, 0) := by decide +kernel
theorem k_257_1165 : COD 257 1165 = some (.iconst 1, 1, 0, 0, 0, 0) := by decide +kernel
theorem k_257_1166 : COD 257 1166 = some (.iadd, 1, 0, 0, 0, 0) := by decide +kernel
theorem k_257_1167 : COD 257 1167 = some (.iaload, 1, 0, 0, 0, 0) := by decide +kernel
theorem k_257_1168 : COD 257 1168 = some (.aload_n 0, 1, 0, 0, 0, 0) := by decide +kernel
theorem k_257_1169 : COD 257 1169 = some (.iload 4, 2, 0, 0, 0, 0) := by decide +kernel
theorem k_257_1171 : COD 257 1171 = some (.iconst 2, 1, 0, 0, 0, 0) := by decide +kernel
theorem k_257_1172 : COD 257 1172 = some (.iadd, 1, 0, 0, 0, 0) := by decide +kernel
theorem k_257_1173 : COD 257 1173 = some (.iaload, 1, 0, 0, 0, 0) := by decide +kernel
theorem k_257_1174 : COD 257 1174 = some (.aload_n 3, 1, 0, 0, 0, 0) := by decide +kernel
theorem k_257_1175 : COD 257 1175 = some (.invokestatic 179, 3, 248, 4, 934, 0) := by decide +kernel
theorem k_257_1178 : COD 257 1178 = some (.istore 5, 2, 0, 0, 0, 0) := by decide +kernel
theorem k_257_1180 : COD 257 1180 = some (.aload_n 2, 1, 0, 0, 0, 0) := by decide +kernel
theorem k_257_1181 : COD 257 1181 = some (.aload_n 0, 1, 0, 0, 0, 0) := by decide +kernel
theorem k_257_1182 : COD 257 1182 = some (.iload 4, 2, 0, 0, 0, 0) := by decide +kernel
theorem k_257_1184 : COD 257 1184 = some (.iconst 1, 1, 0, 0, 0, 0) := by decide +kernel
theorem k_257_1185 : COD 257 1185 = some (.iadd, 1, 0, 0, 0, 0) := by decide +kernel
theorem k_257_1186 : COD 257 1186 = some (.iaload, 1, 0, 0, 0, 0) := by decide +kernel
theorem k_257_1187 : COD 257 1187 = some (.aload_n 0, 1, 0, 0, 0, 0) := by decide +kernel
theorem k_257_1188 : COD 257 1188 = some (.iload 4, 2, 0, 0, 0, 0) := by decide +kernel
theorem k_257_1190 : COD 257 1190 = some (.iconst 2, 1, 0, 0, 0, 0) := by decide +kernel
theorem k_257_1191 : COD 257 1191 = some (.iadd, 1, 0, 0, 0, 0) := by decide +kernel
theorem k_257_1192 : COD 257 1192 = some (.iaload, 1, 0, 0, 0, 0) := by decide +kernel
theorem k_257_1193 : COD 257 1193 = some (.invokevirtual 181, 3, 209, 2, 1500, 10) := by decide +kernel
theorem k_257_1196 : COD 257 1196 = some (.istore 6, 2, 0, 0, 0, 0) := by decide +kernel
theorem k_257_1198 : COD 257 1198 = some (.aload_n 2, 1, 0, 0, 0, 0) := by decide +kernel
theorem k_257_1199 : COD 257 1199 = some (.invokevirtual 102, 3, 128, 0, 1205, 10) := by decide +kernel
theorem k_257_1202 : COD 257 1202 = some (.iload 5, 2, 0, 0, 0, 0) := by decide +kernel
theorem k_257_1204 : COD 257 1204 = some (.if_icmp .eq 5, 3, 1209, 0, 0, 0) := by decide +kernel
theorem k_257_1207 : COD 257 1207 = some (.iconst 0, 1, 0, 0, 0, 0) := by decide +kernel
theorem k_257_1208 : COD 257 1208 = some (.ireturn, 1, 0, 0, 0, 1) := by decide +kernel
theorem k_257_1209 : COD 257 1209 = some (.iload 5, 2, 0, 0, 0, 0) := by decide +kernel
theorem k_257_1211 : COD 257 1211 = some (.ifCond .ne 15, 3, 1226, 0, 0, 0) := by decide +kernel
theorem k_257_1214 : COD 257 1214 = some (.aload_n 3, 1, 0, 0, 0, 0) := by decide +kernel
theorem k_257_1215 : COD 257 1215 = some (.iconst 0, 1, 0, 0, 0, 0) := by decide +kernel
theorem k_257_1216 : COD 257 1216 = some (.laload, 1, 0, 0, 0, 0) := by decide +kernel
theorem k_257_1217 : COD 257 1217 = some (.iload 6, 2, 0, 0, 0, 0) := by decide +kernel
theorem k_257_1219 : COD 257 1219 = some (.i2l, 1, 0, 0, 0, 0) := by decide +kernel
theorem k_257_1220 : COD 257 1220 = some (.lcmp, 1, 0, 0, 0, 0) := by decide +kernel
theorem k_257_1221 : COD 257 1221 = some (.ifCond .eq 5, 3, 1226, 0, 0, 0) := by decide +kernel
theorem k_257_1224 : COD 257 1224 = some (.iconst 0, 1, 0, 0, 0, 0) := by decide +kernel
theorem k_257_1225 : COD 257 1225 = some (.ireturn, 1, 0, 0, 0, 1) := by decide +kernel
theorem k_257_1226 : COD 257 1226 = some (.goto 626, 3, 1852, 0, 0, 0) := by decide +kernel
theorem k_257_1229 : COD 257 1229 = some (.aload_n 1, 1, 0, 0, 0, 0) := by decide +kernel
theorem k_257_1230 : COD 257 1230 = some (.aload_n 0, 1, 0, 0, 0, 0) := by decide +kernel
theorem k_257_1231 : COD 257 1231 = some (.iload 4, 2, 0, 0, 0, 0) := by decide +kernel
theorem k_257_1233 : COD 257 1233 = some (.iconst 1, 1, 0, 0, 0, 0) := by decide +kernel
theorem k_257_1234 : COD 257 1234 = some (.iadd, 1, 0, 0, 0, 0) := by decide +kernel
theorem k_257_1235 : COD 257 1235 = some (.iaload, 1, 0, 0, 0, 0) := by decide +kernel
theorem k_257_1236 : COD 257 1236 = some (.aload_n 0, 1, 0, 0, 0, 0) := by decide +kernel
theorem k_257_1237 : COD 257 1237 = some (.iload 4, 2, 0, 0, 0, 0) := by decide +kernel
theorem k_257_1239 : COD 257 1239 = some (.iconst 2, 1, 0, 0, 0, 0) := by decide +kernel
theorem k_257_1240 : COD 257 1240 = some (.iadd, 1, 0, 0, 0, 0) := by decide +kernel
theorem k_257_1241 : COD 257 1241 = some (.iaload, 1, 0, 0, 0, 0) := by decide +kernel
theorem k_257_1242 : COD 257 1242 = some (.aload_n 3, 1, 0, 0, 0, 0) := by decide +kernel
theorem k_257_1243 : COD 257 1243 = some (.invokestatic 182, 3, 249, 4, 941, 0) := by decide +kernel
theorem k_257_1246 : COD 257 1246 = some (.istore 5, 2, 0, 0, 0, 0) := by decide +kernel
theorem k_257_1248 : COD 257 1248 = some (.aload_n 2, 1, 0, 0, 0, 0) := by decide +kernel
theorem k_257_1249 : COD 257 1249 = some (.aload_n 0, 1, 0, 0, 0, 0) := by decide +kernel
theorem k_257_1250 : COD 257 1250 = some (.iload 4, 2, 0, 0, 0, 0) := by decide +kernel
theorem k_257_1252 : COD 257 1252 = some (.iconst 1, 1, 0, 0, 0, 0) := by decide +kernel
theorem k_257_1253 : COD 257 1253 = some (.iadd, 1, 0, 0, 0, 0) := by decide +kernel
theorem k_257_1254 : COD 257 1254 = some (.iaload, 1, 0, 0, 0, 0) := by decide +kernel
theorem k_257_1255 : COD 257 1255 = some (.aload_n 0, 1, 0, 0, 0, 0) := by decide +kernel
theorem k_257_1256 : COD 257 1256 = some (.iload 4, 2, 0, 0, 0, 0) := by decide +kernel
theorem k_257_1258 : COD 257 1258 = some (.iconst 2, 1, 0, 0, 0, 0) := by decide +kernel
theorem k_257_1259 : COD 257 1259 = some (.iadd, 1, 0, 0, 0, 0) := by decide +kernel
theorem k_257_1260 : COD 257 1260 = some (.iaload, 1, 0, 0, 0, 0) := by decide +kernel
theorem k_257_1261 : COD 257 1261 = some (.invokevirtual 184, 3, 210, 2, 1504, 10) := by decide +kernel
theorem k_257_1264 : COD 257 1264 = some (.istore 6, 2, 0, 0, 0, 0) := by decide +kernel
theorem k_257_1266 : COD 257 1266 = some (.aload_n 2, 1, 0, 0, 0, 0) := by decide +kernel
theorem k_257_1267 : COD 257 1267 = some (.invokevirtual 102, 3, 128, 0, 1205, 10) := by decide +kernel
theorem k_257_1270 : COD 257 1270 = some (.iload 5, 2, 0, 0, 0, 0) := by decide +kernel
theorem k_257_1272 : COD 257 1272 = some (.if_icmp .eq 5, 3, 1277, 0, 0, 0) := by decide +kernel
theorem k_257_1275 : COD 257 1275 = some (.iconst 0, 1, 0, 0, 0, 0) := by decide +kernel
theorem k_257_1276 : COD 257 1276 = some (.ireturn, 1, 0, 0, 0, 1) := by decide +kernel
theorem k_257_1277 : COD 257 1277 = some (.iload 5, 2, 0, 0, 0, 0) := by decide +kernel
theorem k_257_1279 : COD 257 1279 = some (.ifCond .ne 15, 3, 1294, 0, 0, 0) := by decide +kernel
theorem k_257_1282 : COD 257 1282 = some (.aload_n 3, 1, 0, 0, 0, 0) := by decide +kernel
theorem k_257_1283 : COD 257 1283 = some (.iconst 0, 1, 0, 0, 0, 0) := by decide +kernel
theorem k_257_1284 : COD 257 1284 = some (.laload, 1, 0, 0, 0, 0) := by decide +kernel
theorem k_257_1285 : COD 257 1285 = some (.iload 6, 2, 0, 0, 0, 0) := by decide +kernel
theorem k_257_1287 : COD 257 1287 = some (.i2l, 1, 0, 0, 0, 0) := by decide +kernel
theorem k_257_1288 : COD 257 1288 = some (.lcmp, 1, 0, 0, 0, 0) := by decide +kernel
theorem k_257_1289 : COD 257 1289 = some (.ifCond .eq 5, 3, 1294, 0, 0, 0) := by decide +kernel
theorem k_257_1292 : COD 257 1292 = some (.iconst 0, 1, 0, 0, 0, 0) := by decide +kernel
theorem k_257_1293 : COD 257 1293 = some (.ireturn, 1, 0, 0, 0, 1) := by decide +kernel
theorem k_257_1294 : COD 257 1294 = some (.goto 558, 3, 1852, 0, 0, 0) := by decide +kernel
theorem k_257_1297 : COD 257 1297 = some (.aload_n 1, 1, 0, 0, 0, 0) := by decide +kernel
theorem k_257_1298 : COD 257 1298 = some (.aload_n 0, 1, 0, 0, 0, 0) := by decide +kernel
theorem k_257_1299 : COD 257 1299 = some (.iload 4, 2, 0, 0, 0, 0) := by decide +kernel
theorem k_257_1301 : COD 257 1301 = some (.iconst 1, 1, 0, 0, 0, 0) := by decide +kernel
theorem k_257_1302 : COD 257 1302 = some (.iadd, 1, 0, 0, 0, 0) := by decide +kernel
theorem k_257_1303 : COD 257 1303 = some (.iaload, 1, 0, 0, 0, 0) := by decide +kernel
theorem k_257_1304 : COD 257 1304 = some (.invokevirtual 185, 3, 108, 1, 618, 7) := by decide +kernel
theorem k_257_1307 : COD 257 1307 = some (.aload_n 2, 1, 0, 0, 0, 0) := by decide +kernel
theorem k_257_1308 : COD 257 1308 = some (.aload_n 0, 1, 0, 0, 0, 0) := by decide +kernel
theorem k_257_1309 : COD 257 1309 = some (.iload 4, 2, 0, 0, 0, 0) := by decide +kernel
theorem k_257_1311 : COD 257 1311 = some (.iconst 1, 1, 0, 0, 0, 0) := by decide +kernel
theorem k_257_1312 : COD 257 1312 = some (.iadd, 1, 0, 0, 0, 0) := by decide +kernel
theorem k_257_1313 : COD 257 1313 = some (.iaload, 1, 0, 0, 0, 0) := by decide +kernel
theorem k_257_1314 : COD 257 1314 = some (.invokevirtual 188, 3, 211, 1, 1508, 10) := by decide +kernel
theorem k_257_1317 : COD 257 1317 = some (.if_icmp .eq 535, 3, 1852, 0, 0, 0) := by decide +kernel
theorem k_257_1320 : COD 257 1320 = some (.iconst 0, 1, 0, 0, 0, 0) := by decide +kernel
theorem k_257_1321 : COD 257 1321 = some (.ireturn, 1, 0, 0, 0, 1) := by decide +kernel
theorem k_257_1322 : COD 257 1322 = some (.aload_n 1, 1, 0, 0, 0, 0) := by decide +kernel
theorem k_257_1323 : COD 257 1323 = some (.invokevirtual 189, 3, 109, 0, 639, 7) := by decide +kernel
theorem k_257_1326 : COD 257 1326 = some (.aload_n 2, 1, 0, 0, 0, 0) := by decide +kernel
theorem k_257_1327 : COD 257 1327 = some (.invokevirtual 192, 3, 212, 0, 1512, 10) := by decide +kernel
theorem k_257_1330 : COD 257 1330 = some (.if_icmp .eq 522, 3, 1852, 0, 0, 0) := by decide +kernel
theorem k_257_1333 : COD 257 1333 = some (.iconst 0, 1, 0, 0, 0, 0) := by decide +kernel
theorem k_257_1334 : COD 257 1334 = some (.ireturn, 1, 0, 0, 0, 1) := by decide +kernel
theorem k_257_1335 : COD 257 1335 = some (.aload_n 1, 1, 0, 0, 0, 0) := by decide +kernel
theorem k_257_1336 : COD 257 1336 = some (.aload_n 0, 1, 0, 0, 0, 0) := by decide +kernel
theorem k_257_1337 : COD 257 1337 = some (.iload 4, 2, 0, 0, 0, 0) := by decide +kernel
theorem k_257_1339 : COD 257 1339 = some (.iconst 1, 1, 0, 0, 0, 0) := by decide +kernel
theorem k_257_1340 : COD 257 1340 = some (.iadd, 1, 0, 0, 0, 0) := by decide +kernel
theorem k_257_1341 : COD 257 1341 = some (.iaload, 1, 0, 0, 0, 0) := by decide +kernel
theorem k_257_1342 : COD 257 1342 = some (.aload_n 0, 1, 0, 0, 0, 0) := by decide +kernel
theorem k_257_1343 : COD 257 1343 = some (.iload 4, 2, 0, 0, 0, 0) := by decide +kernel
theorem k_257_1345 : COD 257 1345 = some (.iconst 2, 1, 0, 0, 0, 0) := by decide +kernel
theorem k_257_1346 : COD 257 1346 = some (.iadd, 1, 0, 0, 0, 0) := by decide +kernel
theorem k_257_1347 : COD 257 1347 = some (.iaload, 1, 0, 0, 0, 0) := by decide +kernel
theorem k_257_1348 : COD 257 1348 = some (.aload_n 0, 1, 0, 0, 0, 0) := by decide +kernel
theorem k_257_1349 : COD 257 1349 = some (.iload 4, 2, 0, 0, 0, 0) := by decide +kernel
theorem k_257_1351 : COD 257 1351 = some (.iconst 3, 1, 0, 0, 0, 0) := by decide +kernel
theorem k_257_1352 : COD 257 1352 = some (.iadd, 1, 0, 0, 0, 0) := by decide +kernel
theorem k_257_1353 : COD 257 1353 = some (.iaload, 1, 0, 0, 0, 0) := by decide +kernel
theorem k_257_1354 : COD 257 1354 = some (.aload_n 3, 1, 0, 0, 0, 0) := by decide +kernel
theorem k_257_1355 : COD 257 1355 = some (.invokestatic 193, 3, 250, 5, 948, 0) := by decide +kernel
theorem k_257_1358 : COD 257 1358 = some (.istore 5, 2, 0, 0, 0, 0) := by decide +kernel
theorem k_257_1360 : COD 257 1360 = some (.aload_n 2, 1, 0, 0, 0, 0) := by decide +kernel
theorem k_257_1361 : COD 257 1361 = some (.aload_n 0, 1, 0, 0, 0, 0) := by decide +kernel
theorem k_257_1362 : COD 257 1362 = some (.iload 4, 2, 0, 0, 0, 0) := by decide +kernel
theorem k_257_1364 : COD 257 1364 = some (.iconst 1, 1, 0, 0, 0, 0) := by decide +kernel
theorem k_257_1365 : COD 257 1365 = some (.iadd, 1, 0, 0, 0, 0) := by decide +kernel
theorem k_257_1366 : COD 257 1366 = some (.iaload, 1, 0, 0, 0, 0) := by decide +kernel
theorem k_257_1367 : COD 257 1367 = some (.aload_n 0, 1, 0, 0, 0, 0) := by decide +kernel
theorem k_257_1368 : COD 257 1368 = some (.iload 4, 2, 0, 0, 0, 0) := by decide +kernel
theorem k_257_1370 : COD 257 1370 = some (.iconst 2, 1, 0, 0, 0, 0) := by decide +kernel
theorem k_257_1371 : COD 257 1371 = some (.iadd, 1, 0, 0, 0, 0) := by decide +kernel
theorem k_257_1372 : COD 257 1372 = some (.iaload, 1, 0, 0, 0, 0) := by decide +kernel
theorem k_257_1373 : COD 257 1373 = some (.aload_n 0, 1, 0, 0, 0, 0) := by decide +kernel
theorem k_257_1374 : COD 257 1374 = some (.iload 4, 2, 0, 0, 0, 0) := by decide +kernel
theorem k_257_1376 : COD 257 1376 = some (.iconst 3, 1, 0, 0, 0, 0) := by decide +kernel
theorem k_257_1377 : COD 257 1377 = some (.iadd, 1, 0, 0, 0, 0) := by decide +kernel
theorem k_257_1378 : COD 257 1378 = some (.iaload, 1, 0, 0, 0, 0) := by decide +kernel
theorem k_257_1379 : COD 257 1379 = some (.invokevirtual 196, 3, 213, 3, 1516, 10) := by decide +kernel
theorem k_257_1382 : COD 257 1382 = some (.istore 6, 2, 0, 0, 0, 0) := by decide +kernel
theorem k_257_1384 : COD 257 1384 = some (.aload_n 2, 1, 0, 0, 0, 0) := by decide +kernel
theorem k_257_1385 : COD 257 1385 = some (.invokevirtual 102, 3, 128, 0, 1205, 10) := by decide +kernel
theorem k_257_1388 : COD 257 1388 = some (.iload 5, 2, 0, 0, 0, 0) := by decide +kernel
theorem k_257_1390 : COD 257 1390 = some (.if_icmp .eq 5, 3, 1395, 0, 0, 0) := by decide +kernel
theorem k_257_1393 : COD 257 1393 = some (.iconst 0, 1, 0, 0, 0, 0) := by decide +kernel
theorem k_257_1394 : COD 257 1394 = some (.ireturn, 1, 0, 0, 0, 1) := by decide +kernel
theorem k_257_1395 : COD 257 1395 = some (.iload 5, 2, 0, 0, 0, 0) := by decide +kernel
theorem k_257_1397 : COD 257 1397 = some (.ifCond .ne 15, 3, 1412, 0, 0, 0) := by decide +kernel
theorem k_257_1400 : COD 257 1400 = some (.aload_n 3, 1, 0, 0, 0, 0) := by decide +kernel
theorem k_257_1401 : COD 257 1401 = some (.iconst 0, 1, 0, 0, 0, 0) := by decide +kernel
theorem k_257_1402 : COD 257 1402 = some (.laload, 1, 0, 0, 0, 0) := by decide +kernel
theorem k_257_1403 : COD 257 1403 = some (.iload 6, 2, 0, 0, 0, 0) := by decide +kernel
theorem k_257_1405 : COD 257 1405 = some (.i2l, 1, 0, 0, 0, 0) := by decide +kernel
theorem k_257_1406 : COD 257 1406 = some (.lcmp, 1, 0, 0, 0, 0) := by decide +kernel
theorem k_257_1407 : COD 257 1407 = some (.ifCond .eq 5, 3, 1412, 0, 0, 0) := by decide +kernel
theorem k_257_1410 : COD 257 1410 = some (.iconst 0, 1, 0, 0, 0, 0) := by decide +kernel
theorem k_257_1411 : COD 257 1411 = some (.ireturn, 1, 0, 0, 0, 1) := by decide +kernel
theorem k_257_1412 : COD 257 1412 = some (.goto 440, 3, 1852, 0, 0, 0) := by decide +kernel
theorem k_257_1415 : COD 257 1415 = some (.aload_n 1, 1, 0, 0, 0, 0) := by decide +kernel
theorem k_257_1416 : COD 257 1416 = some (.aload_n 0, 1, 0, 0, 0, 0) := by decide +kernel
theorem k_257_1417 : COD 257 1417 = some (.iload 4, 2, 0, 0, 0, 0) := by decide +kernel
theorem k_257_1419 : COD 257 1419 = some (.iconst 1, 1, 0, 0, 0, 0) := by decide +kernel
theorem k_257_1420 : COD 257 1420 = some (.iadd, 1, 0, 0, 0, 0) := by decide +kernel
theorem k_257_1421 : COD 257 1421 = some (.iaload, 1, 0, 0, 0, 0) := by decide +kernel
theorem k_257_1422 : COD 257 1422 = some (.aload_n 0, 1, 0, 0, 0, 0) := by decide +kernel
theorem k_257_1423 : COD 257 1423 = some (.iload 4, 2, 0, 0, 0, 0) := by decide +kernel
theorem k_257_1425 : COD 257 1425 = some (.iconst 2, 1, 0, 0, 0, 0) := by decide +kernel
theorem k_257_1426 : COD 257 1426 = some (.iadd, 1, 0, 0, 0, 0) := by decide +kernel
theorem k_257_1427 : COD 257 1427 = some (.iaload, 1, 0, 0, 0, 0) := by decide +kernel
theorem k_257_1428 : COD 257 1428 = some (.aload_n 0, 1, 0, 0, 0, 0) := by decide +kernel
theorem k_257_1429 : COD 257 1429 = some (.iload 4, 2, 0, 0, 0, 0) := by decide +kernel
theorem k_257_1431 : COD 257 1431 = some (.iconst 3, 1, 0, 0, 0, 0) := by decide +kernel
theorem k_257_1432 : COD 257 1432 = some (.iadd, 1, 0, 0, 0, 0) := by decide +kernel
theorem k_257_1433 : COD 257 1433 = some (.iaload, 1, 0, 0, 0, 0) := by decide +kernel
theorem k_257_1434 : COD 257 1434 = some (.aload_n 3, 1, 0, 0, 0, 0) := by decide +kernel
theorem k_257_1435 : COD 257 1435 = some (.invokestatic 197, 3, 251, 5, 959, 0) := by decide +kernel
theorem k_257_1438 : COD 257 1438 = some (.istore 5, 2, 0, 0, 0, 0) := by decide +kernel
theorem k_257_1440 : COD 257 1440 = some (.aload_n 2, 1, 0, 0, 0, 0) := by decide +kernel
theorem k_257_1441 : COD 257 1441 = some (.aload_n 0, 1, 0, 0, 0, 0) := by decide +kernel
theorem k_257_1442 : COD 257 1442 = some (.iload 4, 2, 0, 0, 0, 0) := by decide +kernel
theorem k_257_1444 : COD 257 1444 = some (.iconst 1, 1, 0, 0, 0, 0) := by decide +kernel
theorem k_257_1445 : COD 257 1445 = some (.iadd, 1, 0, 0, 0, 0) := by decide +kernel
theorem k_257_1446 : COD 257 1446 = some (.iaload, 1, 0, 0, 0, 0) := by decide +kernel
theorem k_257_1447 : COD 257 1447 = some (.aload_n 0, 1, 0, 0, 0, 0) := by decide +kernel
theorem k_257_1448 : COD 257 1448 = some (.iload 4, 2, 0, 0, 0, 0) := by decide +kernel
theorem k_257_1450 : COD 257 1450 = some (.iconst 2, 1, 0, 0, 0, 0) := by decide +kernel
theorem k_257_1451 : COD 257 1451 = some (.iadd, 1, 0, 0, 0, 0) := by decide +kernel
theorem k_257_1452 : COD 257 1452 = some (.iaload, 1, 0, 0, 0, 0) := by decide +kernel
theorem k_257_1453 : COD 257 1453 = some (.aload_n 0, 1, 0, 0, 0, 0) := by decide +kernel
theorem k_257_1454 : COD 257 1454 = some (.iload 4, 2, 0, 0, 0, 0) := by decide +kernel
theorem k_257_1456 : COD 257 1456 = some (.iconst 3, 1, 0, 0, 0, 0) := by decide +kernel
theorem k_257_1457 : COD 257 1457 = some (.iadd, 1, 0, 0, 0, 0) := by decide +kernel
theorem k_257_1458 : COD 257 1458 = some (.iaload, 1, 0, 0, 0, 0) := by decide +kernel
theorem k_257_1459 : COD 257 1459 = some (.invokevirtual 199, 3, 214, 3, 1520, 10) := by decide +kernel
theorem k_257_1462 : COD 257 1462 = some (.lstore 6, 2, 0, 0, 0, 0) := by decide +kernel
theorem k_257_1464 : COD 257 1464 = some (.aload_n 2, 1, 0, 0, 0, 0) := by decide +kernel
theorem k_257_1465 : COD 257 1465 = some (.invokevirtual 102, 3, 128, 0, 1205, 10) := by decide +kernel
theorem k_257_1468 : COD 257 1468 = some (.iload 5, 2, 0, 0, 0, 0) := by decide +kernel
theorem k_257_1470 : COD 257 1470 = some (.if_icmp .eq 5, 3, 1475, 0, 0, 0) := by decide +kernel
theorem k_257_1473 : COD 257 1473 = some (.iconst 0, 1, 0, 0, 0, 0) := by decide +kernel
theorem k_257_1474 : COD 257 1474 = some (.ireturn, 1, 0, 0, 0, 1) := by decide +kernel
theorem k_257_1475 : COD 257 1475 = some (.iload 5, 2, 0, 0, 0, 0) := by decide +kernel
theorem k_257_1477 : COD 257 1477 = some (.ifCond .ne 14, 3, 1491, 0, 0, 0) := by decide +kernel
theorem k_257_1480 : COD 257 1480 = some (.aload_n 3, 1, 0, 0, 0, 0) := by decide +kernel
theorem k_257_1481 : COD 257 1481 = some (.iconst 0, 1, 0, 0, 0, 0) := by decide +kernel
theorem k_257_1482 : COD 257 1482 = some (.laload, 1, 0, 0, 0, 0) := by decide +kernel
theorem k_257_1483 : COD 257 1483 = some (.lload 6, 2, 0, 0, 0, 0) := by decide +kernel
theorem k_257_1485 : COD 257 1485 = some (.lcmp, 1, 0, 0, 0, 0) := by decide +kernel
theorem k_257_1486 : COD 257 1486 = some (.ifCond .eq 5, 3, 1491, 0, 0, 0) := by decide +kernel
theorem k_257_1489 : COD 257 1489 = some (.iconst 0, 1, 0, 0, 0, 0) := by decide +kernel
theorem k_257_1490 : COD 257 1490 = some (.ireturn, 1, 0, 0, 0, 1) := by decide +kernel
theorem k_257_1491 : COD 257 1491 = some (.goto 361, 3, 1852, 0, 0, 0) := by decide +kernel
theorem k_257_1494 : COD 257 1494 = some (.aload_n 1, 1, 0, 0, 0, 0) := by decide +kernel
theorem k_257_1495 : COD 257 1495 = some (.aload_n 0, 1, 0, 0, 0, 0) := by decide +kernel
theorem k_257_1496 : COD 257 1496 = some (.iload 4, 2, 0, 0, 0, 0) := by decide +kernel
theorem k_257_1498 : COD 257 1498 = some (.iconst 1, 1, 0, 0, 0, 0) := by decide +kernel
theorem k_257_1499 : COD 257 1499 = some (.iadd, 1, 0, 0, 0, 0) := by decide +kernel
theorem k_257_1500 : COD 257 1500 = some (.iaload, 1, 0, 0, 0, 0) := by decide +kernel
theorem k_257_1501 : COD 257 1501 = some (.aload_n 3, 1, 0, 0, 0, 0) := by decide +kernel
theorem k_257_1502 : COD 257 1502 = some (.invokestatic 200, 3, 252, 3, 966, 0) := by decide +kernel
theorem k_257_1505 : COD 257 1505 = some (.istore 5, 2, 0, 0, 0, 0) := by decide +kernel
theorem k_257_1507 : COD 257 1507 = some (.aload_n 2, 1, 0, 0, 0, 0) := by decide +kernel
theorem k_257_1508 : COD 257 1508 = some (.aload_n 0, 1, 0, 0, 0, 0) := by decide +kernel
theorem k_257_1509 : COD 257 1509 = some (.iload 4, 2, 0, 0, 0, 0) := by decide +kernel
theorem k_257_1511 : COD 257 1511 = some (.iconst 1, 1, 0, 0, 0, 0) := by decide +kernel
theorem k_257_1512 : COD 257 1512 = some (.iadd, 1, 0, 0, 0, 0) := by decide +kernel
theorem k_257_1513 : COD 257 1513 = some (.iaload, 1, 0, 0, 0, 0) := by decide +kernel
theorem k_257_1514 : COD 257 1514 = some (.invokevirtual 202, 3, 215, 1, 1524, 10) := by decide +kernel
theorem k_257_1517 : COD 257 1517 = some (.istore 6, 2, 0, 0, 0, 0) := by decide +kernel
theorem k_257_1519 : COD 257 1519 = some (.aload_n 2, 1, 0, 0, 0, 0) := by decide +kernel
theorem k_257_1520 : COD 257 1520 = some (.invokevirtual 102, 3, 128, 0, 1205, 10) := by decide +kernel
theorem k_257_1523 : COD 257 1523 = some (.iload 5, 2, 0, 0, 0, 0) := by decide +kernel
theorem k_257_1525 : COD 257 1525 = some (.if_icmp .eq 5, 3, 1530, 0, 0, 0) := by decide +kernel
theorem k_257_1528 : COD 257 1528 = some (.iconst 0, 1, 0, 0, 0, 0) := by decide +kernel
theorem k_257_1529 : COD 257 1529 = some (.ireturn, 1, 0, 0, 0, 1) := by decide +kernel
theorem k_257_1530 : COD 257 1530 = some (.iload 5, 2, 0, 0, 0, 0) := by decide +kernel
theorem k_257_1532 : COD 257 1532 = some (.ifCond .ne 15, 3, 1547, 0, 0, 0) := by decide +kernel
theorem k_257_1535 : COD 257 1535 = some (.aload_n 3, 1, 0, 0, 0, 0) := by decide +kernel
theorem k_257_1536 : COD 257 1536 = some (.iconst 0, 1, 0, 0, 0, 0) := by decide +kernel
theorem k_257_1537 : COD 257 1537 = some (.laload, 1, 0, 0, 0, 0) := by decide +kernel
theorem k_257_1538 : COD 257 1538 = some (.iload 6, 2, 0, 0, 0, 0) := by decide +kernel
theorem k_257_1540 : COD 257 1540 = some (.i2l, 1, 0, 0, 0, 0) := by decide +kernel
theorem k_257_1541 : COD 257 1541 = some (.lcmp, 1, 0, 0, 0, 0) := by decide +kernel
theorem k_257_1542 : COD 257 1542 = some (.ifCond .eq 5, 3, 1547, 0, 0, 0) := by decide +kernel
theorem k_257_1545 : COD 257 1545 = some (.iconst 0, 1, 0, 0, 0, 0) := by decide +kernel
theorem k_257_1546 : COD 257 1546 = some (.ireturn, 1, 0, 0, 0, 1) := by decide +kernel
theorem k_257_1547 : COD 257 1547 = some (.goto 305, 3, 1852, 0, 0, 0) := by decide +kernel
theorem k_257_1550 : COD 257 1550 = some (.aload_n 1, 1, 0, 0, 0, 0) := by decide +kernel
theorem k_257_1551 : COD 257 1551 = some (.aload_n 0, 1, 0, 0, 0, 0) := by decide +kernel
theorem k_257_1552 : COD 257 1552 = some (.iload 4, 2, 0, 0, 0, 0) := by decide +kernel
theorem k_257_1554 : COD 257 1554 = some (.iconst 1, 1, 0, 0, 0, 0) := by decide +kernel
theorem k_257_1555 : COD 257 1555 = some (.iadd, 1, 0, 0, 0, 0) := by decide +kernel
theorem k_257_1556 : COD 257 1556 = some (.iaload, 1, 0, 0, 0, 0) := by decide +kernel
theorem k_257_1557 : COD 257 1557 = some (.aload_n 3, 1, 0, 0, 0, 0) := by decide +kernel
theorem k_257_1558 : COD 257 1558 = some (.invokestatic 203, 3, 253, 3, 1017, 0) := by decide +kernel
theorem k_257_1561 : COD 257 1561 = some (.istore 5, 2, 0, 0, 0, 0) := by decide +kernel
theorem k_257_1563 : COD 257 1563 = some (.aload_n 2, 1, 0, 0, 0, 0) := by decide +kernel
theorem k_257_1564 : COD 257 1564 = some (.aload_n 0, 1, 0, 0, 0, 0) := by decide +kernel
theorem k_257_1565 : COD 257 1565 = some (.iload 4, 2, 0, 0, 0, 0) := by decide +kernel
theorem k_257_1567 : COD 257 1567 = some (.iconst 1, 1, 0, 0, 0, 0) := by decide +kernel
theorem k_257_1568 : COD 257 1568 = some (.iadd, 1, 0, 0, 0, 0) := by decide +kernel
theorem k_257_1569 : COD 257 1569 = some (.iaload, 1, 0, 0, 0, 0) := by decide +kernel
theorem k_257_1570 : COD 257 1570 = some (.invokevirtual 205, 3, 216, 1, 1561, 10) := by decide +kernel
theorem k_257_1573 : COD 257 1573 = some (.lstore 6, 2, 0, 0, 0, 0) := by decide +kernel
theorem k_257_1575 : COD 257 1575 = some (.aload_n 2, 1, 0, 0, 0, 0) := by decide +kernel
theorem k_257_1576 : COD 257 1576 = some (.invokevirtual 102, 3, 128, 0, 1205, 10) := by decide +kernel
theorem k_257_1579 : COD 257 1579 = some (.iload 5, 2, 0, 0, 0, 0) := by decide +kernel
theorem k_257_1581 : COD 257 1581 = some (.if_icmp .eq 5, 3, 1586, 0, 0, 0) := by decide +kernel
theorem k_257_1584 : COD 257 1584 = some (.iconst 0, 1, 0, 0, 0, 0) := by decide +kernel
theorem k_257_1585 : COD 257 1585 = some (.ireturn, 1, 0, 0, 0, 1) := by decide +kernel
theorem k_257_1586 : COD 257 1586 = some (.iload 5, 2, 0, 0, 0, 0) := by decide +kernel
theorem k_257_1588 : COD 257 1588 = some (.ifCond .ne 14, 3, 1602, 0, 0, 0) := by decide +kernel
theorem k_257_1591 : COD 257 1591 = some (.aload_n 3, 1, 0, 0, 0, 0) := by decide +kernel
theorem k_257_1592 : COD 257 1592 = some (.iconst 0, 1, 0, 0, 0, 0) := by decide +kernel
theorem k_257_1593 : COD 257 1593 = some (.laload, 1, 0, 0, 0, 0) := by decide +kernel
theorem k_257_1594 : COD 257 1594 = some (.lload 6, 2, 0, 0, 0, 0) := by decide +kernel
theorem k_257_1596 : COD 257 1596 = some (.lcmp, 1, 0, 0, 0, 0) := by decide +kernel
theorem k_257_1597 : COD 257 1597 = some (.ifCond .eq 5, 3, 1602, 0, 0, 0) := by decide +kernel
theorem k_257_1600 : COD 257 1600 = some (.iconst 0, 1, 0, 0, 0, 0) := by decide +kernel
theorem k_257_1601 : COD 257 1601 = some (.ireturn, 1, 0, 0, 0, 1) := by decide +kernel
theorem k_257_1602 : COD 257 1602 = some (.goto 250, 3, 1852, 0, 0, 0) := by decide +kernel
theorem k_257_1605 : COD 257 1605 = some (.aload_n 1, 1, 0, 0, 0, 0) := by decide +kernel
theorem k_257_1606 : COD 257 1606 = some (.aload_n 0, 1, 0, 0, 0, 0) := by decide +kernel
theorem k_257_1607 : COD 257 1607 = some (.iload 4, 2, 0, 0, 0, 0) := by decide +kernel
theorem k_257_1609 : COD 257 1609 = some (.iconst 1, 1, 0, 0, 0, 0) := by decide +kernel
theorem k_257_1610 : COD 257 1610 = some (.iadd, 1, 0, 0, 0, 0) := by decide +kernel
theorem k_257_1611 : COD 257 1611 = some (.iaload, 1, 0, 0, 0, 0) := by decide +kernel
theorem k_257_1612 : COD 257 1612 = some (.aload_n 3, 1, 0, 0, 0, 0) := by decide +kernel
theorem k_257_1613 : COD 257 1613 = some (.invokestatic 206, 3, 254, 3, 1024, 0) := by decide +kernel
theorem k_257_1616 : COD 257 1616 = some (.istore 5, 2, 0, 0, 0, 0) := by decide +kernel
theorem k_257_1618 : COD 257 1618 = some (.aload_n 2, 1, 0, 0, 0, 0) := by decide +kernel
theorem k_257_1619 : COD 257 1619 = some (.aload_n 0, 1, 0, 0, 0, 0) := by decide +kernel
theorem k_257_1620 : COD 257 1620 = some (.iload 4, 2, 0, 0, 0, 0) := by decide +kernel
theorem k_257_1622 : COD 257 1622 = some (.iconst 1, 1, 0, 0, 0, 0) := by decide +kernel
theorem k_257_1623 : COD 257 1623 = some (.iadd, 1, 0, 0, 0, 0) := by decide +kernel
theorem k_257_1624 : COD 257 1624 = some (.iaload, 1, 0, 0, 0, 0) := by decide +kernel
theorem k_257_1625 : COD 257 1625 = some (.invokevirtual 208, 3, 217, 1, 1565, 10) := by decide +kernel
theorem k_257_1628 : COD 257 1628 = some (.istore 6, 2, 0, 0, 0, 0) := by decide +kernel
theorem k_257_1630 : COD 257 1630 = some (.aload_n 2, 1, 0, 0, 0, 0) := by decide +kernel
theorem k_257_1631 : COD 257 1631 = some (.invokevirtual 102, 3, 128, 0, 1205, 10) := by decide +kernel
theorem k_257_1634 : COD 257 1634 = some (.iload 5, 2, 0, 0, 0, 0) := by decide +kernel
theorem k_257_1636 : COD 257 1636 = some (.if_icmp .eq 5, 3, 1641, 0, 0, 0) := by decide +kernel
theorem k_257_1639 : COD 257 1639 = some (.iconst 0, 1, 0, 0, 0, 0) := by decide +kernel
theorem k_257_1640 : COD 257 1640 = some (.ireturn, 1, 0, 0, 0, 1) := by decide +kernel
theorem k_257_1641 : COD 257 1641 = some (.iload 5, 2, 0, 0, 0, 0) := by decide +kernel
theorem k_257_1643 : COD 257 1643 = some (.ifCond .ne 15, 3, 1658, 0, 0, 0) := by decide +kernel
theorem k_257_1646 : COD 257 1646 = some (.aload_n 3, 1, 0, 0, 0, 0) := by decide +kernel
theorem k_257_1647 : COD 257 1647 = some (.iconst 0, 1, 0, 0, 0, 0) := by decide +kernel
theorem k_257_1648 : COD 257 1648 = some (.laload, 1, 0, 0, 0, 0) := by decide +kernel
theorem k_257_1649 : COD 257 1649 = some (.iload 6, 2, 0, 0, 0, 0) := by decide +kernel
theorem k_257_1651 : COD 257 1651 = some (.i2l, 1, 0, 0, 0, 0) := by decide +kernel
theorem k_257_1652 : COD 257 1652 = some (.lcmp, 1, 0, 0, 0, 0) := by decide +kernel
theorem k_257_1653 : COD 257 1653 = some (.ifCond .eq 5, 3, 1658, 0, 0, 0) := by decide +kernel
theorem k_257_1656 : COD 257 1656 = some (.iconst 0, 1, 0, 0, 0, 0) := by decide +kernel
theorem k_257_1657 : COD 257 1657 = some (.ireturn, 1, 0, 0, 0, 1) := by decide +kernel
theorem k_257_1658 : COD 257 1658 = some (.goto 194, 3, 1852, 0, 0, 0) := by decide +kernel
theorem k_257_1661 : COD 257 1661 = some (.aload_n 1, 1, 0, 0, 0, 0) := by decide +kernel
theorem k_257_1662 : COD 257 1662 = some (.aload_n 0, 1, 0, 0, 0, 0) := by decide +kernel
theorem k_257_1663 : COD 257 1663 = some (.iload 4, 2, 0, 0, 0, 0) := by decide +kernel
theorem k_257_1665 : COD 257 1665 = some (.iconst 1, 1, 0, 0, 0, 0) := by decide +kernel
theorem k_257_1666 : COD 257 1666 = some (.iadd, 1, 0, 0, 0, 0) := by decide +kernel
theorem k_257_1667 : COD 257 1667 = some (.iaload, 1, 0, 0, 0, 0) := by decide +kernel
theorem k_257_1668 : COD 257 1668 = some (.aload_n 0, 1, 0, 0, 0, 0) := by decide +kernel
theorem k_257_1669 : COD 257 1669 = some (.iload 4, 2, 0, 0, 0, 0) := by decide +kernel
theorem k_257_1671 : COD 257 1671 = some (.iconst 2, 1, 0, 0, 0, 0) := by decide +kernel
theorem k_257_1672 : COD 257 1672 = some (.iadd, 1, 0, 0, 0, 0) := by decide +kernel
theorem k_257_1673 : COD 257 1673 = some (.iaload, 1, 0, 0, 0, 0) := by decide +kernel
theorem k_257_1674 : COD 257 1674 = some (.aload_n 3, 1, 0, 0, 0, 0) := by decide +kernel
theorem k_257_1675 : COD 257 1675 = some (.invokestatic 209, 3, 255, 4, 1031, 0) := by decide +kernel
theorem k_257_1678 : COD 257 1678 = some (.istore 5, 2, 0, 0, 0, 0) := by decide +kernel
theorem k_257_1680 : COD 257 1680 = some (.aload_n 2, 1, 0, 0, 0, 0) := by decide +kernel
theorem k_257_1681 : COD 257 1681 = some (.aload_n 0, 1, 0, 0, 0, 0) := by decide +kernel
theorem k_257_1682 : COD 257 1682 = some (.iload 4, 2, 0, 0, 0, 0) := by decide +kernel
theorem k_257_1684 : COD 257 1684 = some (.iconst 1, 1, 0, 0, 0, 0) := by decide +kernel
theorem k_257_1685 : COD 257 1685 = some (.iadd, 1, 0, 0, 0, 0) := by decide +kernel
theorem k_257_1686 : COD 257 1686 = some (.iaload, 1, 0, 0, 0, 0) := by decide +kernel
theorem k_257_1687 : COD 257 1687 = some (.aload_n 0, 1, 0, 0, 0, 0) := by decide +kernel
theorem k_257_1688 : COD 257 1688 = some (.iload 4, 2, 0, 0, 0, 0) := by decide +kernel
theorem k_257_1690 : COD 257 1690 = some (.iconst 2, 1, 0, 0, 0, 0) := by decide +kernel
theorem k_257_1691 : COD 257 1691 = some (.iadd, 1, 0, 0, 0, 0) := by decide +kernel
theorem k_257_1692 : COD 257 1692 = some (.iaload, 1, 0, 0, 0, 0) := by decide +kernel
theorem k_257_1693 : COD 257 1693 = some (.invokevirtual 211, 3, 219, 2, 1569, 10) := by decide +kernel
theorem k_257_1696 : COD 257 1696 = some (.istore 6, 2, 0, 0, 0, 0) := by decide +kernel
theorem k_257_1698 : COD 257 1698 = some (.aload_n 2, 1, 0, 0, 0, 0) := by decide +kernel
theorem k_257_1699 : COD 257 1699 = some (.invokevirtual 102, 3, 128, 0, 1205, 10) := by decide +kernel
theorem k_257_1702 : COD 257 1702 = some (.iload 5, 2, 0, 0, 0, 0) := by decide +kernel
theorem k_257_1704 : COD 257 1704 = some (.if_icmp .eq 5, 3, 1709, 0, 0, 0) := by decide +kernel
theorem k_257_1707 : COD 257 1707 = some (.iconst 0, 1, 0, 0, 0, 0) := by decide +kernel
theorem k_257_1708 : COD 257 1708 = some (.ireturn, 1, 0, 0, 0, 1) := by decide +kernel
theorem k_257_1709 : COD 257 1709 = some (.iload 5, 2, 0, 0, 0, 0) := by decide +kernel
theorem k_257_1711 : COD 257 1711 = some (.ifCond .ne 15, 3, 1726, 0, 0, 0) := by decide +kernel
theorem k_257_1714 : COD 257 1714 = some (.aload_n 3, 1, 0, 0, 0, 0) := by decide +kernel
theorem k_257_1715 : COD 257 1715 = some (.iconst 0, 1, 0, 0, 0, 0) := by decide +kernel
theorem k_257_1716 : COD 257 1716 = some (.laload, 1, 0, 0, 0, 0) := by decide +kernel
theorem k_257_1717 : COD 257 1717 = some (.iload 6, 2, 0, 0, 0, 0) := by decide +kernel
theorem k_257_1719 : COD 257 1719 = some (.i2l, 1, 0, 0, 0, 0) := by decide +kernel
theorem k_257_1720 : COD 257 1720 = some (.lcmp, 1, 0, 0, 0, 0) := by decide +kernel
theorem k_257_1721 : COD 257 1721 = some (.ifCond .eq 5, 3, 1726, 0, 0, 0) := by decide +kernel
theorem k_257_1724 : COD 257 1724 = some (.iconst 0, 1, 0, 0, 0, 0) := by decide +kernel
theorem k_257_1725 : COD 257 1725 = some (.ireturn, 1, 0, 0, 0, 1) := by decide +kernel
theorem k_257_1726 : COD 257 1726 = some (.goto 126, 3, 1852, 0, 0, 0) := by decide +kernel
theorem k_257_1729 : COD 257 1729 = some (.aload_n 1, 1, 0, 0, 0, 0) := by decide +kernel
theorem k_257_1730 : COD 257 1730 = some (.aload_n 0, 1, 0, 0, 0, 0) := by decide +kernel
theorem k_257_1731 : COD 257 1731 = some (.iload 4, 2, 0, 0, 0, 0) := by decide +kernel
theorem k_257_1733 : COD 257 1733 = some (.iconst 1, 1, 0, 0, 0, 0) := by decide +kernel
theorem k_257_1734 : COD 257 1734 = some (.iadd, 1, 0, 0, 0, 0) := by decide +kernel
theorem k_257_1735 : COD 257 1735 = some (.iaload, 1, 0, 0, 0, 0) := by decide +kernel
theorem k_257_1736 : COD 257 1736 = some (.aload_n 0, 1, 0, 0, 0, 0) := by decide +kernel
theorem k_257_1737 : COD 257 1737 = some (.iload 4, 2, 0, 0, 0, 0) := by decide +kernel
theorem k_257_1739 : COD 257 1739 = some (.iconst 2, 1, 0, 0, 0, 0) := by decide +kernel
theorem k_257_1740 : COD 257 1740 = some (.iadd, 1, 0, 0, 0, 0) := by decide +kernel
theorem k_257_1741 : COD 257 1741 = some (.iaload, 1, 0, 0, 0, 0) := by decide +kernel
theorem k_257_1742 : COD 257 1742 = some (.aload_n 3, 1, 0, 0, 0, 0) := by decide +kernel
theorem k_257_1743 : COD 257 1743 = some (.invokestatic 212, 3, 256, 4, 1038, 0) := by decide +kernel
theorem k_257_1746 : COD 257 1746 = some (.istore 5, 2, 0, 0, 0, 0) := by decide +kernel
theorem k_257_1748 : COD 257 1748 = some (.aload_n 2, 1, 0, 0, 0, 0) := by decide +kernel
theorem k_257_1749 : COD 257 1749 = some (.aload_n 0, 1, 0, 0, 0, 0) := by decide +kernel
theorem k_257_1750 : COD 257 1750 = some (.iload 4, 2, 0, 0, 0, 0) := by decide +kernel
theorem k_257_1752 : COD 257 1752 = some (.iconst 1, 1, 0, 0, 0, 0) := by decide +kernel
theorem k_257_1753 : COD 257 1753 = some (.iadd, 1, 0, 0, 0, 0) := by decide +kernel
theorem k_257_1754 : COD 257 1754 = some (.iaload, 1, 0, 0, 0, 0) := by decide +kernel
theorem k_257_1755 : COD 257 1755 = some (.aload_n 0, 1, 0, 0, 0, 0) := by decide +kernel
theorem k_257_1756 : COD 257 1756 = some (.iload 4, 2, 0, 0, 0, 0) := by decide +kernel
theorem k_257_1758 : COD 257 1758 = some (.iconst 2, 1, 0, 0, 0, 0) := by decide +kernel
theorem k_257_1759 : COD 257 1759 = some (.iadd, 1, 0, 0, 0, 0) := by decide +kernel
theorem k_257_1760 : COD 257 1760 = some (.iaload, 1, 0, 0, 0, 0) := by decide +kernel
theorem k_257_1761 : COD 257 1761 = some (.invokevirtual 214, 3, 221, 2, 1577, 10) := by decide +kernel
theorem k_257_1764 : COD 257 1764 = some (.istore 6, 2, 0, 0, 0, 0) := by decide +kernel
theorem k_257_1766 : COD 257 1766 = some (.aload_n 2, 1, 0, 0, 0, 0) := by decide +kernel
theorem k_257_1767 : COD 257 1767 = some (.invokevirtual 102, 3, 128, 0, 1205, 10) := by decide +kernel
theorem k_257_1770 : COD 257 1770 = some (.iload 5, 2, 0, 0, 0, 0) := by decide +kernel
theorem k_257_1772 : COD 257 1772 = some (.if_icmp .eq 5, 3, 1777, 0, 0, 0) := by decide +kernel
theorem k_257_1775 : COD 257 1775 = some (.iconst 0, 1, 0, 0, 0, 0) := by decide +kernel
theorem k_257_1776 : COD 257 1776 = some (.ireturn, 1, 0, 0, 0, 1) := by decide +kernel
theorem k_257_1777 : COD 257 1777 = some (.iload 5, 2, 0, 0, 0, 0) := by decide +kernel
theorem k_257_1779 : COD 257 1779 = some (.ifCond .ne 15, 3, 1794, 0, 0, 0) := by decide +kernel
theorem k_257_1782 : COD 257 1782 = some (.aload_n 3, 1, 0, 0, 0, 0) := by decide +kernel
theorem k_257_1783 : COD 257 1783 = some (.iconst 0, 1, 0, 0, 0, 0) := by decide +kernel
theorem k_257_1784 : COD 257 1784 = some (.laload, 1, 0, 0, 0, 0) := by decide +kernel
theorem k_257_1785 : COD 257 1785 = some (.iload 6, 2, 0, 0, 0, 0) := by decide +kernel
theorem k_257_1787 : COD 257 1787 = some (.i2l, 1, 0, 0, 0, 0) := by decide +kernel
theorem k_257_1788 : COD 257 1788 = some (.lcmp, 1, 0, 0, 0, 0) := by decide +kernel
theorem k_257_1789 : COD 257 1789 = some (.ifCond .eq 5, 3, 1794, 0, 0, 0) := by decide +kernel
theorem k_257_1792 : COD 257 1792 = some (.iconst 0, 1, 0, 0, 0, 0) := by decide +kernel
theorem k_257_1793 : COD 257 1793 = some (.ireturn, 1, 0, 0, 0, 1) := by decide +kernel
theorem k_257_1794 : COD 257 1794 = some (.goto 58, 3, 1852, 0, 0, 0) := by decide +kernel
theorem k_257_1797 : COD 257 1797 = some (.aload_n 1, 1, 0, 0, 0, 0) := by decide +kernel
theorem k_257_1798 : COD 257 1798 = some (.invokevirtual 215, 3, 117, 0, 647, 7) := by decide +kernel
theorem k_257_1801 : COD 257 1801 = some (.dstore 5, 2, 0, 0, 0, 0) := by decide +kernel
theorem k_257_1803 : COD 257 1803 = some (.aload_n 2, 1, 0, 0, 0, 0) := by decide +kernel
theorem k_257_1804 : COD 257 1804 = some (.invokevirtual 219, 3, 222, 0, 1585, 10) := by decide +kernel
theorem k_257_1807 : COD 257 1807 = some (.dstore 7, 2, 0, 0, 0, 0) := by decide +kernel
theorem k_257_1809 : COD 257 1809 = some (.dload 5, 2, 0, 0, 0, 0) := by decide +kernel
theorem k_257_1811 : COD 257 1811 = some (.dload 7, 2, 0, 0, 0, 0) := by decide +kernel
theorem k_257_1813 : COD 257 1813 = some (.dcmp .l, 1, 0, 0, 0, 0) := by decide +kernel
theorem k_257_1814 : COD 257 1814 = some (.ifCond .eq 21, 3, 1835, 0, 0, 0) := by decide +kernel
theorem k_257_1817 : COD 257 1817 = some (.dload 5, 2, 0, 0, 0, 0) := by decide +kernel
theorem k_257_1819 : COD 257 1819 = some (.dload 5, 2, 0, 0, 0, 0) := by decide +kernel
theorem k_257_1821 : COD 257 1821 = some (.dcmp .l, 1, 0, 0, 0, 0) := by decide +kernel
theorem k_257_1822 : COD 257 1822 = some (.ifCond .eq 11, 3, 1833, 0, 0, 0) := by decide +kernel
theorem k_257_1825 : COD 257 1825 = some (.dload 7, 2, 0, 0, 0, 0) := by decide +kernel
theorem k_257_1827 : COD 257 1827 = some (.dload 7, 2, 0, 0, 0, 0) := by decide +kernel
theorem k_257_1829 : COD 257 1829 = some (.dcmp .l, 1, 0, 0, 0, 0) := by decide +kernel
theorem k_257_1830 : COD 257 1830 = some (.ifCond .ne 5, 3, 1835, 0, 0, 0) := by decide +kernel
theorem k_257_1833 : COD 257 1833 = some (.iconst 0, 1, 0, 0, 0, 0) := by decide +kernel
theorem k_257_1834 : COD 257 1834 = some (.ireturn, 1, 0, 0, 0, 1) := by decide +kernel
theorem k_257_1835 : COD 257 1835 = some (.goto 17, 3, 1852, 0, 0, 0) := by decide +kernel
theorem k_257_1838 : COD 257 1838 = some (.aload_n 1, 1, 0, 0, 0, 0) := by decide +kernel
theorem k_257_1839 : COD 257 1839 = some (.invokevirtual 220, 3, 118, 0, 651, 7) := by decide +kernel
theorem k_257_1842 : COD 257 1842 = some (.aload_n 2, 1, 0, 0, 0, 0) := by decide +kernel
theorem k_257_1843 : COD 257 1843 = some (.invokevirtual 224, 3, 223, 0, 1589, 10) := by decide +kernel
theorem k_257_1846 : COD 257 1846 = some (.lcmp, 1, 0, 0, 0, 0) := by decide +kernel
theorem k_257_1847 : COD 257 1847 = some (.ifCond .eq 5, 3, 1852, 0, 0, 0) := by decide +kernel
theorem k_257_1850 : COD 257 1850 = some (.iconst 0, 1, 0, 0, 0, 0) := by decide +kernel
theorem k_257_1851 : COD 257 1851 = some (.ireturn, 1, 0, 0, 0, 1) := by decide +kernel
theorem k_257_1852 : COD 257 1852 = some (.iinc 4 6, 3, 0, 0, 0, 0) := by decide +kernel
theorem k_257_1855 : COD 257 1855 = some (.goto (-1832), 3, 23, 0, 0, 0) := by decide +kernel
theorem k_257_1858 : COD 257 1858 = some (.iconst 1, 1, 0, 0, 0, 0) := by decide +kernel
theorem k_257_1859 : COD 257 1859 = some (.ireturn, 1, 0, 0, 0, 1) := by decide +kernel
